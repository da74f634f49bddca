/-! want: the step -/
theorem IPl_same {n : Nat} {isP pS pA cS cP : Int32} {ss : RS} {so nu so' nu' : Nat → Int32} {fi se fi' se' : Nat → Int64} (h : IPl n isP pS pA cS cP ss so nu fi se) (e : ∀ w, w < n → so' w = so w ∧ nu' w = nu w ∧ fi' w = fi w ∧ se' w = se w) : IPl n isP pS pA cS cP ss so' nu' fi' se' := by
  rcases h with h | ⟨h1, set, p, r⟩
  · exact Or.inl h
  · refine Or.inr ⟨h1, set, p, ?_⟩
    have em : (mem set n).map (lawL so' nu' fi' se') = (mem set n).map (lawL so nu fi se) := by
      refine List.map_congr_left (fun w hw => ?_)
      have hw2 : w < n := by
        unfold mem at hw
        rw [List.mem_filter, List.mem_range] at hw
        exact hw.1
      obtain ⟨a, b, c, d⟩ := e w hw2
      unfold lawL
      rw [a, b, c, d]
    rw [em]
    exact r
theorem mem_up {set n : Nat} (h : set < 2 ^ n) : mem set (n + 1) = mem set n := by
  rw [mem_succ, hi_bit h (Nat.le_refl _)]
  simp
theorem up_2 {set n : Nat} (h : set < 2 ^ n) : set < 2 ^ (n + 1) := Nat.lt_of_lt_of_le h (Nat.pow_le_pow_right (by omega) (by omega))
theorem IPl_up {n : Nat} {isP pS pA cS cP : Int32} {ss : RS} {so nu : Nat → Int32} {fi se : Nat → Int64} (h : IPl n isP pS pA cS cP ss so nu fi se) : IPl (n + 1) isP pS pA cS cP ss so nu fi se := by
  rcases h with h | ⟨h1, set, p, h0, hs, r⟩
  · exact Or.inl h
  · refine Or.inr ⟨h1, set, p, h0, up_2 hs, ?_⟩
    rw [mem_up hs]
    exact r
theorem ITr_up {n : Nat} {tS mS sz : Int32} {be ma : Nat → Int32} (h : ITr n tS mS sz be ma) : ITr (n + 1) tS mS sz be ma := by
  obtain ⟨set, hs, r⟩ := h
  refine ⟨set, up_2 hs, ?_⟩
  rw [mem_up hs]
  exact r
theorem IW_new {n q : Nat} {ad : Nat → Nat} {cnt wa : Int32} {lw : Nat → Option Nat} {lp : List Nat} {pf : Nat → RS} {so nu : Nat → Int32} {fi se : Nat → Int64} {byt ow wo ea re gu le so' nu' byt' ow' wo' ea' re' gu' : Nat → Int32} {fi' se' : Nat → Int64} {L : RS} (h : IW n ad cnt lw lp pf wa so nu fi se byt ow wo ea re gu le) (hn : n < 20) (hq : q ∉ lp) (hL : LR n L so' nu' fi' se' byt' ow' wo' ea' re' gu' le) (hK : LK n so' nu' wo' ea' le) (ho : ∀ i, i ≠ n → so' i = so i ∧ nu' i = nu i ∧ fi' i = fi i ∧ se' i = se i ∧ byt' i = byt i ∧ ow' i = ow i ∧ wo' i = wo i ∧ ea' i = ea i ∧ re' i = re i ∧ gu' i = gu i) : IW (n + 1) (fun i => if i = n then q else ad i) (nI (n + 1)) (va_up lw n (some q)) (lp ++ [q]) (up pf q L) (nI (n + 1)) so' nu' fi' se' byt' ow' wo' ea' re' gu' le := by
  obtain ⟨-, ec, ew, hl, inj, hz⟩ := h
  refine ⟨by omega, rfl, rfl, fun i hi => ?_, fun i j hi hj e => ?_, fun i h1 h2 => hz i (by omega) h2⟩
  · by_cases c : i = n
    · subst c
      simp only [if_pos]
      refine ⟨va_up_self _ _ _, List.mem_append.mpr (Or.inr (List.mem_singleton.mpr rfl)), ?_⟩
      rw [up_same]
      exact ⟨hL, hK⟩
    · obtain ⟨a1, a2, ⟨b1, b2, b3, b4, b5, b6, b7, b8, b9, b10, b11⟩, ⟨k1, k2, k3, k4, k5, k6⟩⟩ := hl i (by omega)
      simp only [if_neg c]
      have hne : ad i ≠ q := fun e => hq (e ▸ a2)
      refine ⟨(va_up_ne _ _ c).trans a1, List.mem_append.mpr (Or.inl a2), ?_⟩
      rw [up_ne hne]
      obtain ⟨c1, c2, c3, c4, c5, c6, c7, c8, c9, c10⟩ := ho i c
      refine ⟨⟨b1.trans c1.symm, b2.trans c2.symm, b3.trans c3.symm, b4.trans c4.symm, b5.trans c5.symm, b6.trans c6.symm, b7.trans c7.symm, b8.trans c8.symm, b9.trans c9.symm, b10.trans c10.symm, b11⟩, ?_⟩
      unfold LK
      rw [c1, c2, c7, c8]
      exact ⟨k1, k2, k3, k4, k5, k6⟩
  · have e : (if i = n then q else ad i) = (if j = n then q else ad j) := e
    by_cases c : i = n
    · by_cases c2 : j = n
      · omega
      · rw [if_pos c, if_neg c2] at e
        exact absurd (e ▸ (hl j (by omega)).2.1) hq
    · by_cases c2 : j = n
      · rw [if_neg c, if_pos c2] at e
        exact absurd (e.symm ▸ (hl i (by omega)).2.1) hq
      · rw [if_neg c, if_neg c2] at e
        exact inj i j (by omega) (by omega) e
section WANT3
variable {N : Nat} {sb st sp sd ss sy S : RS} {lw si : Nat → Option Nat} {lp : List Nat} {pf : Nat → RS}
theorem step_2 (hN : 100 ≤ N) (h : Inv sb lw st sp sd ss sy si lp pf S) (v1 v2 v3 : Int32) : cL_2 N sb lw st sp sd ss sy si lp pf S v1 v2 v3 Inv := by
  have keep := h
  obtain ⟨n, ad, hW, ⟨k, hk, et1, et2, ht⟩, hD, hR, hP, hPl, hTr⟩ := h
  obtain ⟨hn, ec, ew, hl, inj, hz⟩ := id hW
  unfold cL_2 fX5_want
  by_cases c1 : ∃ j, 0 ≤ j ∧ j ≤ 9 ∧ v1 = nI j
  · obtain ⟨j1, -, hj1, e1⟩ := c1
    subst e1
    refine wc_yes (lo := 0) (hi := 9) (by omega) hj1 (by omega) ⟨fun c => absurd c (by decide), fun _ => ?_⟩
    by_cases c2 : ∃ j, 1 ≤ j ∧ j ≤ 99 ∧ v2 = nI j
    · obtain ⟨j2, hj2, hj2', e2⟩ := c2
      subst e2
      refine wc_yes (lo := 1) (hi := 99) hj2 hj2' (by omega) ⟨fun c => absurd c (by decide), fun _ => ?_⟩
      by_cases c3 : ∃ j, 1 ≤ j ∧ j ≤ 99 ∧ v3 = nI j
      · obtain ⟨j3, hj3, hj3', e3⟩ := c3
        subst e3
        refine wc_yes (lo := 1) (hi := 99) hj3 hj3' (by omega) ⟨fun _ => ?_, fun c => absurd c (by decide)⟩
        have six : ∀ {r : Int32} {A : RS → Prop}, ((¬ S.1 13 = 20 → wR N S (nI j1) (nI j2) (nI j3) (fun r2 S1 => r = r2 ∧ A S1)) ∧ (S.1 13 = 20 → (r = -2 ∧ A S))) → fX6_want N S (nI j1) (nI j2) (nI j3) (fun r2 S1 => r = r2 ∧ A S1) := by
          intro r A hh
          exact wc_yes (lo := 0) (hi := 9) (by omega) hj1 (by omega) ⟨fun c => absurd c (by decide), fun _ => wc_yes (lo := 1) (hi := 99) hj2 hj2' (by omega) ⟨fun c => absurd c (by decide), fun _ => wc_yes (lo := 1) (hi := 99) hj3 hj3' (by omega) ⟨fun _ => hh, fun c => absurd c (by decide)⟩⟩⟩
        rw [ec]
        by_cases c20 : n < 20
        · have n20 : ¬ S.1 13 = 20 := by
            rw [ew]
            exact nI_ne (b := 20) (by omega) (by omega) (by omega)
          have hv : vp_in (nI n) 20 := vp_in_nI c20 (by omega)
          have en : (nI n).toNatClampNeg = n := nI_clamp (by omega)
          refine ⟨fun _ => ?_, fun c => absurd (nI_lt (b := 20) c20 (by omega)) c⟩
          have hbyt : ∀ j, j < k → S.2.1 1 j = nI (S.2.1 1 j).toNatClampNeg ∧ (S.2.1 1 j).toNatClampNeg < 256 := by
            intro j hj
            obtain ⟨-, c, hc, e⟩ := ht j hj
            rw [e, nI_clamp (by omega)]
            exact ⟨rfl, hc⟩
          obtain ⟨ok, a, m, E, F, f, hf, ha, hm, ham, g3, g6⟩ := parse_both (N := N) (k := k) (n := n) (b := fun j => (S.2.1 1 j).toNatClampNeg) (T := st) (S := S) hN ⟨hk, et1, fun j hj => (ht j hj).1.trans (hbyt j hj).1, fun j hj => (hbyt j hj).2⟩ ⟨hk, et2, fun j hj => (hbyt j hj).1, fun j hj => (hbyt j hj).2⟩ c20 ew
          have fr_in : ∀ {S' : RS}, fr n S S' → ∀ i, i < n → S'.2.1 3 i = S.2.1 3 i ∧ S'.2.1 4 i = S.2.1 4 i ∧ S'.2.2.2 5 i = S.2.2.2 5 i ∧ S'.2.2.2 6 i = S.2.2.2 6 i := fun h i hi => h.2.2 i (by omega)
          cases ok with
          | false =>
            refine g3 _ ⟨fun c => (by cases c), fun _ T' => ⟨fun _ => nm_e ⟨fun _ => six ⟨fun _ => g6 _ _ _ _ ⟨fun c => (by cases c), fun _ S' hfr e37 => ?_⟩, fun c => absurd c n20⟩, fun c => absurd c (fne (by omega))⟩, fun c => absurd c (fne (by omega))⟩⟩
            refine nm_e (nm_e ⟨fun c => absurd (show S'.1 37 < 0 from c) (by rw [e37]; exact nI_pos (by omega)), fun _ => ⟨?_, ?_⟩⟩)
            · show (-100 : Int32) - nI f = (-100 : Int32) - S'.1 37
              rw [e37]
            · obtain ⟨hf1, hf2, hf3⟩ := id hfr
              have r := fun j h3 h4 => hf2 j h3 h4
              refine ⟨n, ad, ?_, ⟨0, by omega, rfl, rfl, fun j hj => absurd hj (by omega)⟩, ?_, ?_, ?_, ?_, ?_⟩
              · show IW n ad (sb.1 2) lw lp pf (S'.1 13) (S'.2.1 3) (S'.2.1 4) (S'.2.2.2 5) (S'.2.2.2 6) (S'.2.1 12) (S'.2.1 7) (S'.2.1 8) (S'.2.1 9) (S'.2.1 10) (S'.2.1 11) (S'.2.1 34)
                rw [hf1 13 (by omega), r 12 (by decide) (by decide), r 7 (by decide) (by decide), r 8 (by decide) (by decide), r 9 (by decide) (by decide), r 10 (by decide) (by decide), r 11 (by decide) (by decide), r 34 (by decide) (by decide)]
                refine ⟨hn, ec, ew, fun i hi => ?_, inj, hz⟩
                obtain ⟨a1, a2, ⟨b1, b2, b3, b4, b5⟩, ⟨k1, k2, k3, k4, k5, k6⟩⟩ := hl i hi
                obtain ⟨x1, x2, x3, x4⟩ := fr_in hfr i hi
                refine ⟨a1, a2, ⟨b1.trans x1.symm, b2.trans x2.symm, b3.trans x3.symm, b4.trans x4.symm, b5⟩, ?_⟩
                unfold LK
                rw [x1, x2]
                exact ⟨k1, k2, k3, k4, k5, k6⟩
              · show ID (sb.1 3) (S'.1 0)
                rw [hf1 0 (by omega)]
                exact hD
              · show IR (sb.1 5) (sb.2.1 4) (S'.1 31) (S'.2.1 30)
                rw [hf1 31 (by omega), r 30 (by decide) (by decide)]
                exact hR
              · show IP (sp.1 1) (sp.2.1 0) (S'.1 32) (S'.2.1 33)
                rw [hf1 32 (by omega), r 33 (by decide) (by decide)]
                exact hP
              · show IPl n (S'.1 21) (S'.1 22) (S'.1 23) (sb.1 9) (sb.1 10) ss (S'.2.1 3) (S'.2.1 4) (S'.2.2.2 5) (S'.2.2.2 6)
                rw [hf1 21 (by omega), hf1 22 (by omega), hf1 23 (by omega)]
                exact IPl_same hPl (fr_in hfr)
              · show ITr n (sb.1 12) (S'.1 26) (sy.1 3) (sy.2.1 2) (S'.2.1 25)
                rw [hf1 26 (by omega), r 25 (by decide) (by decide)]
                exact hTr
          | true =>
            refine g3 _ ⟨fun _ T' d1 d4 d5 d6 d7 => ⟨fun c => absurd rfl c, fun _ q hq => ?_⟩, fun c => (by cases c)⟩
            refine nm_e (nm_e (nm_e (nm_e (nm_e (nm_e (nm_e (nm_e (nm_e (nm_e (nm_e (nm_e ?_)))))))))))
            rw [en, nI_1]
            refine ⟨hv, List.mem_append.mpr (Or.inr (List.mem_singleton.mpr rfl)), nm_e (nm_e (nm_e ⟨fun c => absurd rfl c, fun _ => ?_⟩))⟩
            refine six ⟨fun _ => g6 _ _ _ _ ⟨fun _ S' hfr e37 x3 x4 x5 x6 => ?_, fun c => (by cases c)⟩, fun c => absurd c n20⟩
            obtain ⟨hf1, hf2, hf3⟩ := id hfr
            have r := fun j h3 h4 => hf2 j h3 h4
            refine nm_e (nm_e ⟨fun _ => ?_, fun c => absurd (show S'.1 37 < 0 by rw [e37]; decide) c⟩)
            rw [en]
            refine ⟨hv, nm_e ⟨hv, nm_e ⟨hv, nm_e ⟨hv, nm_e ⟨hv, nm_e ⟨hv, nm_e (nm_e ⟨?_, ?_⟩)⟩⟩⟩⟩⟩⟩
            · show nI (n + 1) - 1 = nI n
              exact nI_pred n
            · refine ⟨n + 1, fun i => if i = n then q else ad i, ?_, ⟨0, by omega, rfl, rfl, fun j hj => absurd hj (by omega)⟩, ?_, ?_, ?_, ?_, ?_⟩
              · show IW (n + 1) _ (nI (n + 1)) _ _ _ (S'.1 13 + 1) (S'.2.1 3) (S'.2.1 4) (S'.2.2.2 5) (S'.2.2.2 6) (upd (S'.2.1 12) n (S'.1 2)) (upd (S'.2.1 7) n (nI j1)) (upd (S'.2.1 8) n (nI j2)) (upd (S'.2.1 9) n (nI j3)) (upd (S'.2.1 10) n (S'.1 0)) (upd (S'.2.1 11) n (-1)) (S'.2.1 34)
                rw [hf1 13 (by omega), ew, nI_1, hf1 2 (by omega), hf1 0 (by omega), r 12 (by decide) (by decide), r 7 (by decide) (by decide), r 8 (by decide) (by decide), r 9 (by decide) (by decide), r 10 (by decide) (by decide), r 11 (by decide) (by decide), r 34 (by decide) (by decide)]
                refine IW_new hW c20 hq ⟨?_, ?_, ?_, ?_, ?_, ?_, ?_, ?_, ?_, ?_, ?_⟩ ⟨⟨a, ha, x3⟩, ⟨m, hm, x4⟩, fun c => ?_, ⟨j2, hj2, hj2', pk_us⟩, ⟨j3, hj3, hj3', pk_us⟩, ⟨0, by decide, hz n (Nat.le_refl _) c20⟩⟩ (fun i hi => ⟨(hf3 i hi).1, (hf3 i hi).2.1, (hf3 i hi).2.2.1, (hf3 i hi).2.2.2, pk_un hi, pk_un hi, pk_un hi, pk_un hi, pk_un hi, pk_un hi⟩)
                · exact d4.trans x3.symm
                · exact d5.trans x4.symm
                · exact d6.trans x5.symm
                · exact d7.trans x6.symm
                · rw [pk_us, et2]; exact d1
                · rw [pk_us]; rfl
                · rw [pk_us]; rfl
                · rw [pk_us]; rfl
                · rw [pk_us]; exact hD.1
                · rw [pk_us]; rfl
                · exact (hz n (Nat.le_refl _) c20).symm
                · rw [x3] at c
                  rw [x4, ham ((nI_eq (b := 0) (by omega) (by omega)).mp c)]
                  rfl
              · show ID (sb.1 3) (S'.1 0)
                rw [hf1 0 (by omega)]
                exact hD
              · show IR (sb.1 5) (sb.2.1 4) (S'.1 31) (S'.2.1 30)
                rw [hf1 31 (by omega), r 30 (by decide) (by decide)]
                exact hR
              · show IP (sp.1 1) (sp.2.1 0) (S'.1 32) (S'.2.1 33)
                rw [hf1 32 (by omega), r 33 (by decide) (by decide)]
                exact hP
              · show IPl (n + 1) (S'.1 21) (S'.1 22) (S'.1 23) (sb.1 9) (sb.1 10) ss (S'.2.1 3) (S'.2.1 4) (S'.2.2.2 5) (S'.2.2.2 6)
                rw [hf1 21 (by omega), hf1 22 (by omega), hf1 23 (by omega)]
                exact IPl_up (IPl_same hPl (fr_in hfr))
              · show ITr (n + 1) (sb.1 12) (S'.1 26) (sy.1 3) (sy.2.1 2) (S'.2.1 25)
                rw [hf1 26 (by omega), r 25 (by decide) (by decide)]
                exact ITr_up hTr
        · have e20 : n = 20 := by omega
          refine ⟨fun c => absurd (show nI n < nI 20 from c) (nI_nlt (by omega) (by omega)), fun _ => ?_⟩
          exact six ⟨fun c => absurd (by rw [ew, e20]; rfl) c, fun _ => ⟨rfl, keep⟩⟩
      · refine wc_no (lo := 1) (hi := 99) (by omega) (by omega) c3 ⟨fun c => absurd rfl c, fun _ => ?_⟩
        exact wc_yes (lo := 0) (hi := 9) (by omega) hj1 (by omega) ⟨fun c => absurd c (by decide), fun _ => wc_yes (lo := 1) (hi := 99) hj2 hj2' (by omega) ⟨fun c => absurd c (by decide), fun _ => wc_no (lo := 1) (hi := 99) (by omega) (by omega) c3 ⟨fun c => absurd rfl c, fun _ => ⟨rfl, keep⟩⟩⟩⟩
    · refine wc_no (lo := 1) (hi := 99) (by omega) (by omega) c2 ⟨fun _ => ?_, fun c => absurd rfl c⟩
      exact wc_yes (lo := 0) (hi := 9) (by omega) hj1 (by omega) ⟨fun c => absurd c (by decide), fun _ => wc_no (lo := 1) (hi := 99) (by omega) (by omega) c2 ⟨fun _ => ⟨rfl, keep⟩, fun c => absurd rfl c⟩⟩
  · refine wc_no (lo := 0) (hi := 9) (by omega) (by omega) c1 ⟨fun _ => ?_, fun c => absurd rfl c⟩
    exact wc_no (lo := 0) (hi := 9) (by omega) (by omega) c1 ⟨fun _ => ⟨rfl, keep⟩, fun c => absurd rfl c⟩
end WANT3
