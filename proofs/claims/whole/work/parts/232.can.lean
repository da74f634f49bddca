/-! can, loses, world -/
abbrev LL (S : RS) (set n : Nat) : List Lw := (mem set n).map (lawL (S.2.1 3) (S.2.1 4) (S.2.2.2 5) (S.2.2.2 6))
theorem gf_t {S S1 S2 : RS} (h : gf S S1) (g : gf S1 S2) : gf S S2 := ⟨fun j a b c => (g.1 j a b c).trans (h.1 j a b c), fun j a b c d e => (g.2.1 j a b c d e).trans (h.2.1 j a b c d e), g.2.2.trans h.2.2⟩
section CAN
variable {N : Nat} {sb : RS} {lw : Nat → Option Nat} {st sp sd sd' ss sy : RS} {si : Nat → Option Nat} {lp : List Nat} {pf : Nat → RS} {S S' : RS}
theorem Inv_gf (h : Inv sb lw st sp sd ss sy si lp pf S) (g : gf S S') : Inv sb lw st sp sd' ss sy si lp pf S' := by
  unfold Inv
  rw [g.1 13 (by decide) (by decide) (by decide), g.1 2 (by decide) (by decide) (by decide), g.1 0 (by decide) (by decide) (by decide), g.1 31 (by decide) (by decide) (by decide), g.1 32 (by decide) (by decide) (by decide), g.1 21 (by decide) (by decide) (by decide), g.1 22 (by decide) (by decide) (by decide), g.1 23 (by decide) (by decide) (by decide), g.1 26 (by decide) (by decide) (by decide), g.2.1 3 (by decide) (by decide) (by decide) (by decide) (by decide), g.2.1 4 (by decide) (by decide) (by decide) (by decide) (by decide), g.2.1 12 (by decide) (by decide) (by decide) (by decide) (by decide), g.2.1 7 (by decide) (by decide) (by decide) (by decide) (by decide), g.2.1 8 (by decide) (by decide) (by decide) (by decide) (by decide), g.2.1 9 (by decide) (by decide) (by decide) (by decide) (by decide), g.2.1 10 (by decide) (by decide) (by decide) (by decide) (by decide), g.2.1 11 (by decide) (by decide) (by decide) (by decide) (by decide), g.2.1 34 (by decide) (by decide) (by decide) (by decide) (by decide), g.2.1 1 (by decide) (by decide) (by decide) (by decide) (by decide), g.2.1 30 (by decide) (by decide) (by decide) (by decide) (by decide), g.2.1 33 (by decide) (by decide) (by decide) (by decide) (by decide), g.2.1 25 (by decide) (by decide) (by decide) (by decide) (by decide), g.2.2]
  exact h
theorem MB_of {n set : Nat} {ad : Nat → Nat} {cnt wa : Int32} {byt ow wo ea re gu le : Nat → Int32} (hW : IW n ad cnt lw lp pf wa (S.2.1 3) (S.2.1 4) (S.2.2.2 5) (S.2.2.2 6) byt ow wo ea re gu le) (g : gf S S') (hm : ∀ i w, (mem set n)[i]? = some w → S'.2.1 14 i = nI w ∧ S'.2.1 15 i = S.2.1 4 w) : MB (LL S set n) S' := by
  intro i l hl
  unfold LL at hl
  rw [List.getElem?_map] at hl
  cases hw : (mem set n)[i]? with
  | none => rw [hw] at hl; cases hl
  | some w =>
    rw [hw] at hl
    cases hl
    obtain ⟨hwn, -, -⟩ := mem_get hw
    obtain ⟨e14, e15⟩ := hm i w hw
    obtain ⟨-, -, -, ⟨⟨a, ha, ea⟩, ⟨m, hm', em⟩, -⟩⟩ := hW.2.2.2.1 w hwn
    refine ⟨w, a, m, by have := hW.1; omega, ha, hm', e14, by rw [e15, em], by rw [g.2.1 3 (by decide) (by decide) (by decide) (by decide) (by decide)]; exact ea, ?_⟩
    unfold lawL
    rw [ea, em, nI_clamp (by omega), nI_clamp (by omega), g.2.2]
theorem e_tkSafe {n set : Nat} {ad : Nat → Nat} {cnt : Int32} {byt ow wo ea re gu le : Nat → Int32} {Q : RS → Prop} (hN : 1100 ≤ N) (hW : IW n ad cnt lw lp pf (S.1 13) (S.2.1 3) (S.2.1 4) (S.2.2.2 5) (S.2.2.2 6) byt ow wo ea re gu le) (h5 : (mem set n).length ≤ 5) (h : ∀ S', gf S S' → S'.1 17 = nI (4 ^ (mem set n).length) → ST (LL S set n) S' → (∀ q, q < 4 ^ (mem set n).length → (¬ S'.2.1 19 q = 0 ↔ Safe (LL S set n) q)) → Q S') : fX6_takeSet N S (nI set) (fun S3 => fX6_findSafe N S3 Q) := by
  have el : (LL S set n).length = (mem set n).length := List.length_map ..
  refine e_takeSet (by omega) hW.2.2.1 hW.1 h5 (fun S1 g1 k1 m1 => e_findSafe hN (by rw [el]; exact h5) (by rw [el]; exact k1) (MB_of hW g1 m1) (fun S2 f2 k2 t2 z2 => ?_))
  rw [el] at k2 z2
  exact h S2 (gf_t g1 f2.1) k2 t2 z2
theorem e_tkLost {n set : Nat} {ad : Nat → Nat} {cnt : Int32} {byt ow wo ea re gu le : Nat → Int32} {Q : RS → Prop} (hN : 1100 ≤ N) (hW : IW n ad cnt lw lp pf (S.1 13) (S.2.1 3) (S.2.1 4) (S.2.2.2 5) (S.2.2.2 6) byt ow wo ea re gu le) (h5 : (mem set n).length ≤ 5) (h : ∀ S', gf S S' → ST (LL S set n) S' → (∀ p t q, gst (LL S set n) p t = some q → q < 4 ^ (LL S set n).length) → LZ (LL S set n) S' → Q S') : fX6_takeSet N S (nI set) (fun S3 => fX6_findLost N S3 Q) := by
  have el : (LL S set n).length = (mem set n).length := List.length_map ..
  refine e_takeSet (by omega) hW.2.2.1 hW.1 h5 (fun S1 g1 k1 m1 => e_findLost hN (by rw [el]; exact h5) (by rw [el]; exact k1) (MB_of hW g1 m1) (fun S2 f2 k2 t2 z2 => ?_))
  exact h S2 (gf_t g1 f2.1) t2 (fun p t q e => gst_lt (MB_lt (MB_of hW g1 m1)) e) z2
theorem Rk_0 {ls : List Lw} {q : Nat} (h : Rk ls q 0) : Safe ls q := by
  rcases h with ⟨_, h⟩ | ⟨h, _⟩
  · exact h
  · omega
theorem Rk_p {ls : List Lw} {q r : Nat} (h : Rk ls q r) (hr : ¬ r = 0) : Lst ls r q ∧ ¬ Lst ls (r - 1) q := by
  rcases h with ⟨h, _⟩ | ⟨_, h⟩
  · exact absurd h hr
  · exact h
theorem Rk_uniq {ls : List Lw} {q r r' : Nat} (h : Rk ls q r) (h' : Rk ls q r') : r = r' := by
  by_cases z : r = 0
  · subst z
    by_cases z' : r' = 0
    · exact z'.symm
    · exact absurd (Rk_p h' z').1 (Rk_0 h r')
  · by_cases z' : r' = 0
    · subst z'
      exact absurd (Rk_p h z).1 (Rk_0 h' r)
    · obtain ⟨a, b⟩ := Rk_p h z
      obtain ⟨a', b'⟩ := Rk_p h' z'
      have h1 : ¬ r < r' := fun c => b' (Lst_mono (by omega) a)
      have h2 : ¬ r' < r := fun c => b (Lst_mono (by omega) a')
      omega
theorem step_7 (hN : 1100 ≤ N) (h : Inv sb lw st sp sd ss sy si lp pf S) (v : Int32) : cL_7 N sb lw st sp sd ss sy si lp pf S v Inv := by
  have keep := h
  obtain ⟨n, ad, hW, hT, hD, hR, hP, hPl, hTr⟩ := h
  obtain ⟨hn, ec, ew, hl, inj, hz⟩ := id hW
  unfold cL_7 fX5_can fX6_can
  by_cases hv : isS n 5 v
  · obtain ⟨set, h0, hs, hl5, rfl⟩ := hv
    refine e_isSet5_yes (lim := 5) ec hn (by omega) h0 hs hl5 ⟨fun _ => ?_, fun c => absurd c (by decide)⟩
    refine e_isObeyable hN hW hl5 (fun sd1 r hr _ _ hRk => ?_)
    have six : ∀ x : Int32, x = (if r = 0 then 1 else 0) → fX6_isSet N S (nI set) 5 (fun r1 => ((¬ r1 = 0 → (fX6_takeSet N S (nI set) (fun  S3 => (fX6_findSafe N S3 (fun  S4 => (vp_in 0 1024 ∧ (((S4.2.1 19 (0 : Int32).toNatClampNeg) = 0 → (x = 0 ∧ Inv sb lw st sp sd1 ss sy si lp pf S4)) ∧ (¬ (S4.2.1 19 (0 : Int32).toNatClampNeg) = 0 → (x = 1 ∧ Inv sb lw st sp sd1 ss sy si lp pf S4))))))))) ∧ (r1 = 0 → (x = -1 ∧ Inv sb lw st sp sd1 ss sy si lp pf S)))) := by
      intro x ex
      refine e_isSet6_yes (lim := 5) (by omega) ew hn (by omega) h0 hs hl5 ⟨fun _ => e_tkSafe hN hW hl5 (fun S4 g4 _ _ z4 => ⟨vp_in_nI (n := 0) (by omega) (by omega), fun c => ⟨?_, Inv_gf keep g4⟩, fun c => ⟨?_, Inv_gf keep g4⟩⟩), fun c => absurd c (by decide)⟩
      · by_cases z : r = 0
        · subst z
          exact absurd c ((z4 0 (Nat.pow_pos (by omega))).mpr (Rk_0 hRk))
        · rw [if_neg z] at ex
          exact ex
      · by_cases z : r = 0
        · rw [if_pos z] at ex
          exact ex
        · exact absurd (Rk_p hRk z).1 ((z4 0 (Nat.pow_pos (by omega))).mp c r)
    by_cases z : r = 0
    · rw [if_pos z]
      exact e_bit (b := true) (six 1 (by rw [if_pos z]))
    · rw [if_neg z]
      exact e_bit (b := false) (six 0 (by rw [if_neg z]))
  · refine e_isSet5_no (lim := 5) ec hn (by omega) hv ⟨fun c => absurd rfl c, fun _ => ?_⟩
    exact e_isSet6_no (lim := 5) (by omega) ew hn (by omega) hv ⟨fun c => absurd rfl c, fun _ => ⟨rfl, keep⟩⟩
theorem step_13 (hN : 1100 ≤ N) (h : Inv sb lw st sp sd ss sy si lp pf S) (v : Int32) : cL_13 N sb lw st sp sd ss sy si lp pf S v Inv := by
  have keep := h
  obtain ⟨n, ad, hW, hT, hD, hR, hP, hPl, hTr⟩ := h
  obtain ⟨hn, ec, ew, hl, inj, hz⟩ := id hW
  unfold cL_13 fX5_loses fX6_loses
  by_cases hv : isS n 5 v
  · obtain ⟨set, h0, hs, hl5, rfl⟩ := hv
    refine e_isSet5_yes (lim := 5) ec hn (by omega) h0 hs hl5 ⟨fun _ => ?_, fun c => absurd c (by decide)⟩
    refine e_isObeyable hN hW hl5 (fun sd1 r hr _ er hRk => ?_)
    have six : ∀ x : Int32, x = (if r = 0 then -4 else nI r) → fX6_isSet N S (nI set) 5 (fun r1 => ((¬ r1 = 0 → (fX6_takeSet N S (nI set) (fun  S3 => (fX6_findLost N S3 (fun  S4 => (vp_in 0 1024 ∧ ((0 ≤ (S4.2.1 20 (0 : Int32).toNatClampNeg) → (vp_in 0 1024 ∧ (x = (S4.2.1 20 (0 : Int32).toNatClampNeg) ∧ Inv sb lw st sp sd1 ss sy si lp pf S4))) ∧ (¬ 0 ≤ (S4.2.1 20 (0 : Int32).toNatClampNeg) → (x = -4 ∧ Inv sb lw st sp sd1 ss sy si lp pf S4))))))))) ∧ (r1 = 0 → (x = -1 ∧ Inv sb lw st sp sd1 ss sy si lp pf S)))) := by
      intro x ex
      refine e_isSet6_yes (lim := 5) (by omega) ew hn (by omega) h0 hs hl5 ⟨fun _ => e_tkLost hN hW hl5 (fun S4 g4 _ _ z4 => ⟨vp_in_nI (n := 0) (by omega) (by omega), ?_⟩), fun c => absurd c (by decide)⟩
      show (0 ≤ S4.2.1 20 0 → vp_in 0 1024 ∧ x = S4.2.1 20 0 ∧ _) ∧ (¬ 0 ≤ S4.2.1 20 0 → _)
      rcases z4 0 (Nat.pow_pos (by omega)) with ⟨e1, e2⟩ | ⟨m, e1, e2, e3, e4⟩
      · have z : r = 0 := Rk_uniq hRk (Or.inl ⟨rfl, e2⟩)
        rw [if_pos z] at ex
        rw [e1]
        exact ⟨fun c => absurd c (by decide), fun _ => ⟨ex, Inv_gf keep g4⟩⟩
      · have z : r = m := Rk_uniq hRk e4
        rw [if_neg (by omega)] at ex
        rw [e1, ← z]
        exact ⟨fun _ => ⟨vp_in_nI (n := 0) (by omega) (by omega), ex, Inv_gf keep g4⟩, fun c => absurd (nI_pos' (by omega)) c⟩
    by_cases z : r = 0
    · rw [if_pos z]
      exact ⟨fun c => absurd c (by decide), fun _ => six (-4) (by rw [if_pos z])⟩
    · rw [if_neg z]
      exact ⟨fun _ => e_lostIn0 (six _ (by rw [if_neg z]; exact er)), fun c => absurd rfl c⟩
  · refine e_isSet5_no (lim := 5) ec hn (by omega) hv ⟨fun c => absurd rfl c, fun _ => ?_⟩
    exact e_isSet6_no (lim := 5) (by omega) ew hn (by omega) hv ⟨fun c => absurd rfl c, fun _ => ⟨rfl, keep⟩⟩
theorem step_14 (hN : 1100 ≤ N) (h : Inv sb lw st sp sd ss sy si lp pf S) (v : Int32) : cL_14 N sb lw st sp sd ss sy si lp pf S v Inv := by
  have keep := h
  obtain ⟨n, ad, hW, hT, hD, hR, hP, hPl, hTr⟩ := h
  obtain ⟨hn, ec, ew, hl, inj, hz⟩ := id hW
  unfold cL_14 fX5_world fX6_world
  by_cases hv : isS n 5 v
  · obtain ⟨set, h0, hs, hl5, rfl⟩ := hv
    refine e_isSet5_yes (lim := 5) ec hn (by omega) h0 hs hl5 ⟨fun _ => ?_, fun c => absurd c (by decide)⟩
    refine e_isObeyable hN hW hl5 (fun sd1 r hr hSD er hRk => ?_)
    by_cases z : r = 0
    · rw [if_pos z]
      refine ⟨fun c => absurd c (by decide), fun _ => ?_⟩
      refine e_isSet6_yes (lim := 5) (by omega) ew hn (by omega) h0 hs hl5 ⟨fun _ => e_tkLost hN hW hl5 (fun S4 g4 _ _ z4 => ⟨vp_in_nI (n := 0) (by omega) (by omega), ?_⟩), fun c => absurd c (by decide)⟩
      show (0 ≤ S4.2.1 20 0 → _) ∧ (¬ 0 ≤ S4.2.1 20 0 → _)
      rcases z4 0 (Nat.pow_pos (by omega)) with ⟨e1, e2⟩ | ⟨m, e1, e2, e3, e4⟩
      · rw [e1]
        exact ⟨fun c => absurd c (by decide), fun _ => ⟨rfl, Inv_gf keep g4⟩⟩
      · have : r = m := Rk_uniq hRk e4
        omega
    · rw [if_neg z]
      refine ⟨fun _ => ?_, fun c => absurd rfl c⟩
      obtain ⟨r0, op, hr0, hSV, -⟩ := hSD
      obtain ⟨hGG, -, -, -, hLV⟩ := hSV
      obtain ⟨l1, l2⟩ := Rk_p hRk z
      have hf := law_hi (set := set) hW 0
      rw [hv_0] at hf
      have hC := CL_of (ls := LL S set n) (f := hi1) (by rw [List.length_map]; exact hl5) hf
      have hle : r ≤ r0 := by
        obtain ⟨m, em, hm, hh⟩ := hLV 0 (inC_0 _)
        rw [er] at em
        have := (nI_eq (by omega) (by omega)).mp em
        omega
      unfold fX0_winningIn fX0_isPlace
      refine ⟨fun c => absurd c (by decide), fun _ => ⟨fun c => absurd c (by decide), fun _ => ⟨fun c => absurd c (by decide), fun _ => ⟨vp_in_nI (n := 0) (by omega) (by omega), ?_⟩⟩⟩⟩
      show fX0_openBefore N sd1 (nI 0) (sd1.2.1 7 0) _
      rw [er]
      refine e_openBefore (by omega) hGG (by omega) (fun O mk en hO => e_fwo (by omega) (fun k hk hk1 hk2 => ?_))
      have hO' : ∀ t, t < 64 → (tb O t = true ↔ ∃ q, gst (LL S set n) 0 t = some q ∧ ¬ Lst (LL S set n) (r - 1) q) := by
        intro t ht
        rw [hO t ht]
        have hh : ∀ q, gst (LL S set n) 0 t = some q → ((sd1.2.1 7 q = 0 ∨ ¬ sd1.2.1 7 q < nI r) ↔ ¬ Lst (LL S set n) (r - 1) q) := by
          intro q e
          obtain ⟨m, em, hm, hh⟩ := hLV q (hC.2 0 t q (inC_0 _) ht e)
          rw [em]
          rcases hh with ⟨m0, hn0⟩ | ⟨m1, m2, m3⟩
          · subst m0
            exact ⟨fun _ c => hn0 (Lst_mono (by omega) c), fun _ => Or.inl rfl⟩
          · constructor
            · rintro (c | c) c2
              · have := (nI_eq (b := 0) (by omega) (by omega)).mp c
                omega
              · have : ¬ m < r := fun c3 => c (nI_lt (by omega) (by omega))
                exact m3 (Lst_mono (by omega) c2)
            · intro c
              refine Or.inr (fun c2 => c (Lst_mono ?_ m2))
              have : ¬ r ≤ m := fun c3 => absurd c2 (nI_nlt c3 (by omega))
              omega
        constructor
        · rintro ⟨q, e, c⟩
          exact ⟨q, e, (hh q e).mp c⟩
        · rintro ⟨q, e, c⟩
          exact ⟨q, e, (hh q e).mpr c⟩
      refine e_isSet6_yes (lim := 5) (by omega) ew hn (by omega) h0 hs hl5 ⟨fun _ => e_tkLost hN hW hl5 (fun S4 g4 t4 b4 z4 => ⟨vp_in_nI (n := 0) (by omega) (by omega), ?_⟩), fun c => absurd c (by decide)⟩
      show (0 ≤ S4.2.1 20 0 → vp_in 0 1024 ∧ fX6_breakingIn N S4 (nI 0) (S4.2.1 20 0) _) ∧ (¬ 0 ≤ S4.2.1 20 0 → _)
      rcases z4 0 (Nat.pow_pos (by omega)) with ⟨e1, e2⟩ | ⟨m, e1, e2, e3, e4⟩
      · exact absurd l1 (e2 r)
      · have hm : r = m := Rk_uniq hRk e4
        subst hm
        rw [e1]
        refine ⟨fun _ => ⟨vp_in_nI (n := 0) (by omega) (by omega), ?_⟩, fun c => absurd (nI_pos' (by omega)) c⟩
        have hx := p4 (show (LL S set n).length ≤ 5 by rw [List.length_map]; exact hl5)
        have ok : ∀ q, q < 4 ^ (LL S set n).length → ((¬ S4.2.1 20 q < 0 ∧ S4.2.1 20 q < nI r) ↔ Lst (LL S set n) (r - 1) q) := by
          intro q hq
          rcases z4 q hq with ⟨y1, y2⟩ | ⟨m, y1, y2, y3, y4⟩
          · rw [y1]
            exact ⟨fun c => absurd (by decide) c.1, fun c => absurd c (y2 _)⟩
          · rw [y1]
            obtain ⟨w1, w2⟩ := Rk_p y4 (by omega)
            constructor
            · rintro ⟨_, c⟩
              have : ¬ r ≤ m := fun c3 => absurd c (nI_nlt c3 (by omega))
              exact Lst_mono (by omega) w1
            · intro c
              refine ⟨nI_pos (by omega), ?_⟩
              have : ¬ r ≤ m := fun c3 => w2 (Lst_mono (by omega) c)
              exact nI_lt (by omega) (by omega)
        refine e_breakingIn (by omega) t4 (by omega) (fun t _ q e => Nat.lt_of_lt_of_le (b4 _ _ _ e) hx) (fun i hi hi1 hi2 => ⟨?_, Inv_gf keep g4⟩) (fun hno => ?_)
        · have h1 : ¬ k < i := by
            intro c
            refine hi1 k c (fun o ho q e => (ok q (b4 _ _ _ e)).mpr ?_)
            refine Classical.byContradiction (fun hl => hk2 (by omega) o ho ((hO' (8 * k + o) (by omega)).mpr ⟨q, e, hl⟩))
          have h2 : ¬ i < k := by
            intro c
            obtain ⟨o, ho, hb⟩ := hk1 i c
            obtain ⟨q, e, hn'⟩ := (hO' (8 * i + o) (by omega)).mp hb
            exact hn' ((ok q (b4 _ _ _ e)).mp (hi2 o ho q e))
          rw [show k = i by omega]
        · exfalso
          obtain ⟨r', hr'⟩ : ∃ r', r = r' + 1 := ⟨r - 1, by omega⟩
          rw [hr'] at l1
          obtain ⟨i, hi, hh⟩ := l1
          refine hno i hi (fun o ho q e => (ok q (b4 _ _ _ e)).mpr ?_)
          rw [show r - 1 = r' by omega]
          exact hh o ho q e
  · refine e_isSet5_no (lim := 5) ec hn (by omega) hv ⟨fun c => absurd rfl c, fun _ => ?_⟩
    exact e_isSet6_no (lim := 5) (by omega) ew hn (by omega) hv ⟨fun c => absurd rfl c, fun _ => ⟨rfl, keep⟩⟩
end CAN
