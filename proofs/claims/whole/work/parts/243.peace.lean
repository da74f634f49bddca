/-! peace: the reference's search, and both -/
section PEACE
variable {N : Nat} {f : Nat → Lw} {pw : Nat → Nat → Nat} {W : List Nat}
theorem KW_pw {w e : Nat} {S : RS} (h : KW f pw w S) (he : e ≤ 4) : pw w e ≤ 400 := by
  obtain ⟨a, m, x, y, -, -, hx, hy, -, -, -, -, -, hp⟩ := h
  rw [hp e]
  split
  · omega
  · exact Nat.le_trans (Nat.mul_le_mul hy he) (by decide)
theorem prc_le : ∀ (W es : List Nat), (∀ w, w ∈ W → ∀ e, e ≤ 4 → pw w e ≤ 400) → (∀ e, e ∈ es → e ≤ 4) → prc pw W es ≤ 400 * es.length
  | [], es, _, _ => by
    cases es <;> exact Nat.zero_le _
  | w :: W, [], _, _ => Nat.le_refl _
  | w :: W, e :: es, hw, he => by
    have h1 := prc_le W es (fun x hx => hw x (List.mem_cons_of_mem _ hx)) (fun x hx => he x (List.mem_cons_of_mem _ hx))
    have h2 := hw w (by simp) e (he e (by simp))
    show pw w e + prc pw W es ≤ 400 * (es.length + 1)
    omega
theorem RX_pw {S : RS} (hX : RX f pw W S) : ∀ w, w ∈ W → ∀ e, e ≤ 4 → pw w e ≤ 400 := by
  intro w hw e he
  obtain ⟨j, hj⟩ := List.getElem?_of_mem hw
  exact KW_pw (hX.2.2 j w hj).2.2 he
theorem FL_eq {s s' : RS} {nf : Nat} (h : FL f W s nf) (h29 : s'.1 29 = s.1 29) (h28 : s'.2.1 28 = s.2.1 28) : FL f W s' nf := by
  obtain ⟨a, b⟩ := h
  refine ⟨h29.trans a, fun k hk => ?_⟩
  rw [h28]
  exact b k hk
theorem e_go {S0 : RS} (hN : 1100 ≤ N) (hX0 : RX f pw W S0) : ∀ (r dn : Nat) (es : List Nat) (s : RS) (o : Option (Nat × List Nat)) (nf : Nat) (Q : RS → Prop), es.length + r = W.length → r + 1 ≤ dn → okk f W es → bst f pw W 100000 (cd es * 5 ^ r) o → CS o s → pfr S0 s → FL f W s nf → nf ≤ cd es * 5 ^ r → cd es < 5 ^ es.length → TR es (s.2.1 24) → (∀ s' o' nf', bst f pw W 100000 ((cd es + 1) * 5 ^ r) o' → CS o' s' → pfr S0 s' → FL f W s' nf' → nf' ≤ (cd es + 1) * 5 ^ r → TR es (s'.2.1 24) → Q s') → gX6go N dn s (nI es.length) (nI (prc pw W es)) Q := by
  have hk4 := hX0.2.1
  have hpw := RX_pw hX0
  have start : ∀ (r : Nat) (es : List Nat) (s : RS) (o : Option (Nat × List Nat)) (nf : Nat) (Q : RS → Prop) (Z : RS → Int32 → Int32 → (RS → Prop) → Prop), es.length + r = W.length → okk f W es → bst f pw W 100000 (cd es * 5 ^ r) o → CS o s → pfr S0 s → FL f W s nf → nf ≤ cd es * 5 ^ r → TR es (s.2.1 24) → (∀ s' o' nf', bst f pw W 100000 ((cd es + 1) * 5 ^ r) o' → CS o' s' → pfr S0 s' → FL f W s' nf' → nf' ≤ (cd es + 1) * 5 ^ r → TR es (s'.2.1 24) → Q s') → (prc pw W es < bnd 100000 o → fX6_go_16 Z N s (nI es.length) (nI (prc pw W es)) Q) → bX6_go Z N s (nI es.length) (nI (prc pw W es)) Q := by
    intro r es s o nf Q Z hl hok hb hC hg hF hnf hT h hgo
    have hdg := okk_dig hok
    have hple := prc_le W es hpw hdg
    have hTT : cd es * 5 ^ r ≤ (cd es + 1) * 5 ^ r := Nat.mul_le_mul_right _ (by omega)
    unfold bX6_go
    cases o with
    | none =>
      rw [hC.1 rfl]
      refine ⟨fun _ => hgo ?_, fun c => absurd (by decide) c⟩
      show prc pw W es < 100000
      omega
    | some x =>
      obtain ⟨P, c⟩ := x
      obtain ⟨c1, c2, c3⟩ := hC.2 P c rfl
      rw [c1]
      refine ⟨fun c => absurd c (nI_pos (by omega)), fun _ => ⟨fun c => hgo ?_, fun c => ?_⟩⟩
      · show prc pw W es < P
        exact Classical.byContradiction (fun z => absurd c (nI_nlt (by omega) (by omega)))
      · have hle : P ≤ prc pw W es := Classical.byContradiction (fun z => c (nI_lt (by omega) (by omega)))
        refine h s _ nf (bst_skip hb hTT (fun fs hfs d1 d2 _ => ?_)) hC hg hF (by omega) hT
        obtain ⟨rest, rfl⟩ := cd_pre (r := r) (by rw [hfs.1]; omega) hdg (okk_dig hfs.2) d1 d2
        exact Nat.le_trans hle (prc_pre W _)
  intro r
  induction r with
  | zero =>
    intro dn es s o nf Q hl hdn hok hb hC hg hF hnf hcd hT h
    obtain ⟨dn, rfl⟩ : ∃ d, dn = d + 1 := ⟨dn - 1, by omega⟩
    have hX := RX_pfr hX0 hg
    show bX6_go (gX6go N dn) N s (nI es.length) (nI (prc pw W es)) Q
    refine start 0 es s o nf Q _ hl hok hb hC hg hF hnf hT h (fun hp => ?_)
    rw [Nat.pow_zero, Nat.mul_one] at hb hnf
    rw [Nat.pow_zero, Nat.mul_one] at h
    have hfull : full f W es := ⟨by omega, hok⟩
    have hple := prc_le W es hpw (okk_dig hok)
    have h625 : 5 ^ es.length ≤ 625 := Nat.le_trans (Nat.pow_le_pow_right (by omega) (show es.length ≤ 4 by omega)) (by decide)
    unfold fX6_go_16
    rw [hX.1, show W.length = es.length by omega]
    refine ⟨fun c => absurd rfl c, fun _ => ?_⟩
    refine e_isObeyed hN hX hfull hT hF (by omega) (fun hs s' g' hF' => ⟨fun c => absurd c (by decide), fun _ => nm_e ?_⟩) (fun hs s' nf' g' hF' hn' => ⟨fun _ => ?_, fun c => absurd rfl c⟩)
    · have key := loop_i (σ := RS) (fun w i x => fX6_go_38 (gX6go N dn) N (fun S26 => Q S26) Q w (nI i) x) (fun i x => pfr S0 x ∧ x.1 27 = nI (prc pw W es) ∧ FL f W x nf ∧ x.2.1 24 = s.2.1 24 ∧ ∀ j e, j < i → es[j]? = some e → x.2.1 25 j = nI e) W.length ?_ ?_ N 0 (sI s' 27 (nI (prc pw W es))) (by omega) (by omega) ⟨pfr_I (pfr_t hg g'.1) (by decide) _, rfl, FL_eq hF' rfl rfl, g'.2.2.1, fun j e hj => absurd hj (by omega)⟩
      · exact key
      · rintro w x ⟨x1, x2, x3, x4, x5⟩
        refine lp_end ((x1.1 42 (by decide)).trans hX0.1) (h x (some (prc pw W es, es)) nf (bst_set hb hfull hs hp) ⟨fun c => (by cases c), fun P c e => ?_⟩ x1 x3 (by omega) (by rw [x4]; exact hT))
        cases e
        refine ⟨x2, by omega, fun j e he => x5 j e ?_ he⟩
        have := (List.getElem?_eq_some_iff.mp he).1
        omega
      · rintro w i x hi ⟨x1, x2, x3, x4, x5⟩ ih
        obtain ⟨e, he⟩ : ∃ e, es[i]? = some e := ⟨es[i]'(by omega), List.getElem?_eq_getElem (by omega)⟩
        refine lp_in ((x1.1 42 (by decide)).trans hX0.1) (by omega) hi ⟨vp_in_nI (by omega) (by omega), vp_in_nI (by omega) (by omega), ?_⟩
        rw [nI_clamp (by omega), x4, hT i e he]
        refine nm_e (nm_r (nI_1 i) (ih _ ⟨pfr_A x1 (by decide) _, x2, FL_eq x3 rfl rfl, x4, fun j e' hj he' => ?_⟩))
        show upd (x.2.1 25) i (nI e) j = nI e'
        by_cases z : j = i
        · subst z
          rw [he] at he'
          cases he'
          exact pk_us
        · rw [pk_un z]
          exact x5 j e' (by omega) he'
    · refine h s' o nf' (bst_skip hb (by omega) (fun fs hfs d1 d2 hsf => ?_)) ?_ (pfr_t hg g'.1) hF' (by omega) (by rw [g'.2.2.1]; exact hT)
      · have := (tcode_inj fs es 0 0 (hfs.1.trans hfull.1.symm) (okk_dig hfs.2) (okk_dig hok) (show cd fs = cd es by omega)).1
        subst this
        exact absurd hsf hs
      · obtain ⟨y1, y2⟩ := hC
        refine ⟨fun e => g'.2.1.trans (y1 e), fun P c e => ?_⟩
        obtain ⟨z1, z2, z3⟩ := y2 P c e
        exact ⟨g'.2.1.trans z1, z2, by rw [g'.2.2.2]; exact z3⟩
  | succ r ihr =>
    intro dn es s o nf Q hl hdn hok hb hC hg hF hnf hcd hT h
    obtain ⟨dn, rfl⟩ : ∃ d, dn = d + 1 := ⟨dn - 1, by omega⟩
    have hX := RX_pfr hX0 hg
    have hi : es.length < W.length := by omega
    obtain ⟨w, hw⟩ : ∃ w, W[es.length]? = some w := ⟨W[es.length], List.getElem?_eq_getElem hi⟩
    have hdg := okk_dig hok
    have e5 : ∀ x, x * 5 ^ (r + 1) = (5 * x) * 5 ^ r := by
      intro x
      rw [Nat.pow_succ, Nat.mul_comm (5 ^ r) 5, ← Nat.mul_assoc, Nat.mul_comm x 5]
    show bX6_go (gX6go N dn) N s (nI es.length) (nI (prc pw W es)) Q
    refine start (r + 1) es s o nf Q _ hl hok hb hC hg hF hnf hT h (fun _ => ?_)
    unfold fX6_go_16
    rw [hX.1]
    refine ⟨fun _ => ⟨vp_in_nI (by omega) (by omega), ?_⟩, fun c => absurd ((nI_eq (by omega) (by omega)).mp c) (by omega)⟩
    obtain ⟨e41, hw20, -⟩ := hX.2.2 es.length w hw
    rw [nI_clamp (by omega), e41]
    refine nm_e ?_
    have key : ∀ (fu t : Nat) (s : RS) (o : Option (Nat × List Nat)) (nf : Nat), t ≤ 5 → 5 - t < fu → bst f pw W 100000 ((5 * cd es + t) * 5 ^ r) o → CS o s → pfr S0 s → FL f W s nf → nf ≤ (5 * cd es + t) * 5 ^ r → TR es (s.2.1 24) → fX6_go_75 (gX6go N dn) N (nI es.length) (nI (prc pw W es)) (nI w) (fun S16 => Q S16) Q fu (nI t) s := by
      intro fu
      induction fu with
      | zero => intro t s o nf _ hf; omega
      | succ fu ih =>
        intro t s o nf ht hf hb hC hg hF hnf hT
        have hX := RX_pfr hX0 hg
        obtain ⟨-, -, hKW⟩ := hX.2.2 es.length w hw
        by_cases z5 : t = 5
        · subst z5
          refine ⟨fun _ => h s o nf ?_ hC hg hF ?_ hT, fun c => absurd (show nI 4 < nI 5 from nI_lt (by omega) (by omega)) c⟩
          · rw [e5, show 5 * (cd es + 1) = 5 * cd es + 5 by omega]
            exact hb
          · rw [e5, show 5 * (cd es + 1) = 5 * cd es + 5 by omega]
            exact hnf
        · refine ⟨fun c => absurd (show nI 4 < nI t from c) (nI_nlt (by omega) (by omega)), fun _ => ?_⟩
          have hTT : (5 * cd es + t) * 5 ^ r ≤ (5 * cd es + (t + 1)) * 5 ^ r := Nat.mul_le_mul_right _ (by omega)
          refine e_mayBe hw20 hKW (by omega) (fun ha => ⟨fun c => absurd c (by decide), fun _ => ⟨vp_in_nI (by omega) (by omega), ?_⟩⟩) (fun ha => ⟨fun _ => nm_r (nI_1 t) (ih (t + 1) s o nf (by omega) (by omega) (bst_skip hb hTT (fun fs hfs c1 c2 _ => ?_)) hC hg hF (by omega) hT), fun c => absurd rfl c⟩)
          · rw [nI_clamp (by omega)]
            refine nm_e ?_
            have hok' := okk_snoc hw hok ha
            have el' : (es ++ [t]).length = es.length + 1 := by rw [List.length_append]; rfl
            have hpe := prc_snoc (pw := pw) (e := t) hw
            obtain ⟨a, m, x, y, -, -, -, -, -, -, -, e8, e9, hp⟩ := hKW
            have sub : fX6_go_128 (gX6go N dn) N (sA s 24 (upd (s.2.1 24) es.length (nI t))) (nI es.length) (nI (prc pw W es)) (nI w) (nI t) (nI es.length + (1 : Int32)) (nI (prc pw W es)) (nI (pw w t)) (fun v4 S => fX6_go_75 (gX6go N dn) N (nI es.length) (nI (prc pw W es)) (nI w) (fun S16 => Q S16) Q fu v4 S) (fun S16 => Q S16) Q := by
              unfold fX6_go_128
              rw [nI_add, nI_1, ← hpe, ← el']
              have hb' : bst f pw W 100000 (cd (es ++ [t]) * 5 ^ r) o := by rw [cd_snoc]; exact hb
              have hnf' : nf ≤ cd (es ++ [t]) * 5 ^ r := by rw [cd_snoc]; exact hnf
              refine ihr dn (es ++ [t]) _ o nf _ (by omega) (by omega) hok' hb' hC (pfr_A hg (by decide) _) (FL_eq hF rfl rfl) hnf' ?_ (TR_add t hT) (fun s' o' nf' c1 c2 c3 c4 c5 c6 => nm_r (nI_1 t) (ih (t + 1) s' o' nf' (by omega) (by omega) ?_ c2 c3 c4 ?_ (TR_pre c6)))
              · rw [cd_snoc, el', Nat.pow_succ]
                omega
              · rw [cd_snoc] at c1
                exact c1
              · rw [cd_snoc] at c5
                exact c5
            have hpt := hp t
            refine ⟨fun c => ⟨vp_in_nI (by omega) (by omega), ?_⟩, fun c => ⟨vp_in_nI (by omega) (by omega), ?_⟩⟩
            · have z4 : ¬ t = 4 := fun z => c (by rw [z]; rfl)
              rw [if_neg z4] at hpt
              rw [nI_clamp (by omega)]
              show fX6_go_128 (gX6go N dn) N (sA s 24 (upd (s.2.1 24) es.length (nI t))) (nI es.length) (nI (prc pw W es)) (nI w) (nI t) (nI es.length + (1 : Int32)) (nI (prc pw W es)) (s.2.1 9 w * nI t) _ _ Q
              rw [e9, pk_mul, ← hpt]
              exact sub
            · have z4 : t = 4 := (nI_eq (b := 4) (by omega) (by omega)).mp c
              rw [if_pos z4] at hpt
              rw [nI_clamp (by omega)]
              show fX6_go_128 (gX6go N dn) N (sA s 24 (upd (s.2.1 24) es.length (nI t))) (nI es.length) (nI (prc pw W es)) (nI w) (nI t) (nI es.length + (1 : Int32)) (nI (prc pw W es)) (s.2.1 8 w) _ _ Q
              rw [e8, ← hpt]
              exact sub
          · obtain ⟨rest, rfl⟩ := cd_pre (es := es ++ [t]) (r := r) (by rw [hfs.1, List.length_append, List.length_singleton]; omega) (fun e he => by
              rw [List.mem_append, List.mem_singleton] at he
              rcases he with he | he
              · exact hdg e he
              · omega) (okk_dig hfs.2) (by rw [cd_snoc]; exact c1) (by rw [cd_snoc]; exact c2)
            have hh := hfs.2
            rw [List.append_assoc] at hh
            exact absurd (okk_at hw hh) ha
    refine key N 0 s o nf (by omega) (by omega) ?_ hC hg hF ?_ hT
    · rw [e5] at hb
      exact hb
    · rw [e5] at hnf
      exact hnf
/-- all are left -/
theorem left_all (f : Nat → Lw) : ∀ W : List Nat, okk f W (List.replicate W.length 4) ∧ lws f W (List.replicate W.length 4) = []
  | [] => ⟨trivial, rfl⟩
  | w :: W => by
    obtain ⟨h1, h2⟩ := left_all f W
    refine ⟨⟨Or.inr (Or.inl rfl), h1⟩, ?_⟩
    show [] ++ lws f W (List.replicate W.length 4) = []
    rw [h2]
    rfl
theorem left_prc {x : Nat} : ∀ W : List Nat, (∀ w, w ∈ W → pw w 4 ≤ x) → prc pw W (List.replicate W.length 4) ≤ x * W.length
  | [], _ => Nat.zero_le _
  | w :: W, h => by
    have h1 := left_prc W (fun y hy => h y (List.mem_cons_of_mem _ hy))
    have h2 := h w (by simp)
    show pw w 4 + prc pw W (List.replicate W.length 4) ≤ x * (W.length + 1)
    rw [Nat.mul_add]
    omega
end PEACE
