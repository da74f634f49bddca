/-! calls about one want -/
theorem IW_set {n : Nat} {ad : Nat → Nat} {cnt wa : Int32} {lw : Nat → Option Nat} {lp : List Nat} {pf : Nat → RS} {so nu : Nat → Int32} {fi se : Nat → Int64} {byt ow wo ea re gu le gu' le' : Nat → Int32} {j : Nat} {L' : RS} (h : IW n ad cnt lw lp pf wa so nu fi se byt ow wo ea re gu le) (hj : j < n) (hL : LR j L' so nu fi se byt ow wo ea re gu' le') (hK : LK j so nu wo ea le') (ho : ∀ i, i < 20 → i ≠ j → gu' i = gu i ∧ le' i = le i) : IW n ad cnt lw lp (up pf (ad j) L') wa so nu fi se byt ow wo ea re gu' le' := by
  obtain ⟨hn, ec, ew, hl, inj, hz⟩ := h
  refine ⟨hn, ec, ew, fun i hi => ?_, inj, fun i h1 h2 => by rw [(ho i h2 (by omega)).2]; exact hz i h1 h2⟩
  obtain ⟨a1, a2, a3, a4⟩ := hl i hi
  refine ⟨a1, a2, ?_⟩
  by_cases q : i = j
  · subst q
    rw [up_same]
    exact ⟨hL, hK⟩
  · rw [up_ne (fun e => q (inj i j hi hj e))]
    obtain ⟨g1, g2⟩ := ho i (by omega) q
    obtain ⟨b1, b2, b3, b4, b5, b6, b7, b8, b9, b10, b11⟩ := a3
    obtain ⟨k1, k2, k3, k4, k5, k6⟩ := a4
    exact ⟨⟨b1, b2, b3, b4, b5, b6, b7, b8, b9, b10.trans g1.symm, b11.trans g2.symm⟩, k1, k2, k3, k4, k5, by rw [g2]; exact k6⟩
section WANTS
variable {N : Nat} {sb st sp sd ss sy S : RS} {lw si : Nat → Option Nat} {lp : List Nat} {pf : Nat → RS}
theorem step_3 (h : Inv sb lw st sp sd ss sy si lp pf S) (v : Int32) : cL_3 N sb lw st sp sd ss sy si lp pf S v Inv := by
  have keep := h
  obtain ⟨n, ad, hW, hT, hD, hR, hP, hPl, hTr⟩ := h
  obtain ⟨hn, ec, ew, hl, inj, hz⟩ := id hW
  unfold cL_3 fX5_giveUp fX6_giveUp
  by_cases hv : ∃ j, j < n ∧ v = nI j
  · obtain ⟨j, hj, e⟩ := hv
    subst e
    obtain ⟨a1, a2, a3, a4⟩ := hl j hj
    have a3' := a3
    obtain ⟨b1, b2, b3, b4, b5, b6, b7, b8, b9, b10, b11⟩ := a3
    refine e_lawOf_yes ec hn hj ?_
    rw [a1]
    refine ⟨fun c => (by cases c), fun q e => ?_⟩
    cases e
    refine ⟨a2, fun c => ⟨a2, nm_e ?_⟩, fun c => ?_⟩
    · refine e_isWant_yes ew hn hj ⟨fun _ => ⟨vp_in_nI (by omega) (by omega), fun _ => ⟨vp_in_nI (by omega) (by omega), nm_e ⟨rfl, ?_⟩⟩, fun c2 => absurd ?_ c2⟩, fun c => absurd c (by decide)⟩
      · refine ⟨n, ad, ?_, hT, hD, hR, hP, hPl, hTr⟩
        refine IW_set hW hj ?_ a4 (fun i hi q => ⟨?_, rfl⟩)
        · refine ⟨b1, b2, b3, b4, b5, b6, b7, b8, b9, ?_, b11⟩
          show sb.1 3 = upd (S.2.1 11) (nI j).toNatClampNeg (S.1 0) j
          rw [nI_clamp (by omega), pk_us, hD.1]
        · show upd (S.2.1 11) (nI j).toNatClampNeg (S.1 0) i = _
          rw [nI_clamp (by omega), pk_un q]
      · rw [nI_clamp (by omega), ← b10]
        exact c
    · refine e_isWant_yes ew hn hj ⟨fun _ => ⟨vp_in_nI (by omega) (by omega), fun c2 => absurd (by rw [nI_clamp (by omega), ← b10] at c2; exact c2) c, fun _ => ⟨rfl, keep⟩⟩, fun c => absurd c (by decide)⟩
  · refine e_lawOf_no ec hn hv ⟨fun _ => ?_, fun q e => by cases e⟩
    exact e_isWant_no ew hn hv ⟨fun c => absurd rfl c, fun _ => ⟨rfl, keep⟩⟩
theorem step_4 (hN : 30 ≤ N) (h : Inv sb lw st sp sd ss sy si lp pf S) (v w : Int32) : cL_4 N sb lw st sp sd ss sy si lp pf S v w Inv := by
  have keep := h
  obtain ⟨n, ad, hW, hT, hD, hR, hP, hPl, hTr⟩ := h
  obtain ⟨hn, ec, ew, hl, inj, hz⟩ := id hW
  unfold cL_4 fX5_about fX6_about
  by_cases hv : ∃ j, j < n ∧ v = nI j
  · obtain ⟨j, hj, e⟩ := hv
    subst e
    obtain ⟨a1, a2, ⟨b1, b2, b3, b4, b5, b6, b7, b8, b9, b10, b11⟩, ⟨-, -, -, -, -, ld, hld, eld⟩⟩ := hl j hj
    refine e_lawOf_yes ec hn hj ?_
    rw [a1]
    refine ⟨fun c => (by cases c), fun q e => ?_⟩
    cases e
    have hv : vp_in (nI j) 20 := vp_in_nI (by omega) (by omega)
    have ej : (nI j).toNatClampNeg = j := nI_clamp (by omega)
    have yes : ∀ {Q : Int32 → Prop}, Q 1 → fX6_isWant N S (nI j) Q := fun h => e_isWant_yes ew hn hj h
    rcases sw_cases 8 w with hs | ⟨k, hk, hs⟩
    · have nn : ∀ k : Nat, k ≤ 8 → ¬ w = nI k := fun k hk e => by
        rw [e, nI_toInt (by omega)] at hs
        omega
      refine ⟨fun _ => yes ⟨fun _ => ⟨fun _ => ⟨rfl, keep⟩, fun c => absurd c (nn 0 (by omega)), fun c => absurd c (nn 1 (by omega)), fun c => absurd c (nn 2 (by omega)), fun c => absurd c (nn 3 (by omega)), fun c => absurd c (nn 4 (by omega)), fun c => absurd c (nn 5 (by omega)), fun c => absurd c (nn 6 (by omega)), fun c => absurd c (nn 7 (by omega)), fun c => absurd c (nn 8 (by omega))⟩, fun c => absurd c (by decide)⟩, fun c => absurd c (nn 0 (by omega)), fun c => absurd c (nn 1 (by omega)), fun c => absurd c (nn 2 (by omega)), fun c => absurd c (nn 3 (by omega)), fun c => absurd c (nn 4 (by omega)), fun c => absurd c (nn 5 (by omega)), fun c => absurd c (nn 6 (by omega)), fun c => absurd c (nn 7 (by omega)), fun c => absurd c (nn 8 (by omega))⟩
    · match k, hk, hs with
      | 0, _, hs =>
        subst hs
        refine ⟨fun c => absurd c (by decide), fun _ => ⟨a2, ?_⟩, fun c => absurd c (by decide), fun c => absurd c (by decide), fun c => absurd c (by decide), fun c => absurd c (by decide), fun c => absurd c (by decide), fun c => absurd c (by decide), fun c => absurd c (by decide), fun c => absurd c (by decide)⟩
        refine yes ⟨fun _ => ⟨fun c => absurd c (by decide), fun _ => ⟨hv, ?_⟩, fun c => absurd c (by decide), fun c => absurd c (by decide), fun c => absurd c (by decide), fun c => absurd c (by decide), fun c => absurd c (by decide), fun c => absurd c (by decide), fun c => absurd c (by decide), fun c => absurd c (by decide)⟩, fun c => absurd c (by decide)⟩
        exact ⟨by rw [ej]; exact b1, keep⟩
      | 1, _, hs =>
        subst hs
        refine ⟨fun c => absurd c (by decide), fun c => absurd c (by decide), fun _ => ⟨a2, ?_⟩, fun c => absurd c (by decide), fun c => absurd c (by decide), fun c => absurd c (by decide), fun c => absurd c (by decide), fun c => absurd c (by decide), fun c => absurd c (by decide), fun c => absurd c (by decide)⟩
        refine yes ⟨fun _ => ⟨fun c => absurd c (by decide), fun c => absurd c (by decide), fun _ => ⟨hv, ?_⟩, fun c => absurd c (by decide), fun c => absurd c (by decide), fun c => absurd c (by decide), fun c => absurd c (by decide), fun c => absurd c (by decide), fun c => absurd c (by decide), fun c => absurd c (by decide)⟩, fun c => absurd c (by decide)⟩
        exact ⟨by rw [ej]; exact b2, keep⟩
      | 2, _, hs =>
        subst hs
        refine ⟨fun c => absurd c (by decide), fun c => absurd c (by decide), fun c => absurd c (by decide), fun _ => ⟨a2, ?_⟩, fun c => absurd c (by decide), fun c => absurd c (by decide), fun c => absurd c (by decide), fun c => absurd c (by decide), fun c => absurd c (by decide), fun c => absurd c (by decide)⟩
        refine yes ⟨fun _ => ⟨fun c => absurd c (by decide), fun c => absurd c (by decide), fun c => absurd c (by decide), fun _ => ⟨hv, ?_⟩, fun c => absurd c (by decide), fun c => absurd c (by decide), fun c => absurd c (by decide), fun c => absurd c (by decide), fun c => absurd c (by decide), fun c => absurd c (by decide)⟩, fun c => absurd c (by decide)⟩
        exact ⟨by rw [ej]; exact b6, keep⟩
      | 3, _, hs =>
        subst hs
        refine ⟨fun c => absurd c (by decide), fun c => absurd c (by decide), fun c => absurd c (by decide), fun c => absurd c (by decide), fun _ => ⟨a2, ?_⟩, fun c => absurd c (by decide), fun c => absurd c (by decide), fun c => absurd c (by decide), fun c => absurd c (by decide), fun c => absurd c (by decide)⟩
        refine yes ⟨fun _ => ⟨fun c => absurd c (by decide), fun c => absurd c (by decide), fun c => absurd c (by decide), fun c => absurd c (by decide), fun _ => ⟨hv, ?_⟩, fun c => absurd c (by decide), fun c => absurd c (by decide), fun c => absurd c (by decide), fun c => absurd c (by decide), fun c => absurd c (by decide)⟩, fun c => absurd c (by decide)⟩
        exact ⟨by rw [ej]; exact b7, keep⟩
      | 4, _, hs =>
        subst hs
        refine ⟨fun c => absurd c (by decide), fun c => absurd c (by decide), fun c => absurd c (by decide), fun c => absurd c (by decide), fun c => absurd c (by decide), fun _ => ⟨a2, ?_⟩, fun c => absurd c (by decide), fun c => absurd c (by decide), fun c => absurd c (by decide), fun c => absurd c (by decide)⟩
        refine yes ⟨fun _ => ⟨fun c => absurd c (by decide), fun c => absurd c (by decide), fun c => absurd c (by decide), fun c => absurd c (by decide), fun c => absurd c (by decide), fun _ => ⟨hv, ?_⟩, fun c => absurd c (by decide), fun c => absurd c (by decide), fun c => absurd c (by decide), fun c => absurd c (by decide)⟩, fun c => absurd c (by decide)⟩
        exact ⟨by rw [ej]; exact b8, keep⟩
      | 5, _, hs =>
        subst hs
        refine ⟨fun c => absurd c (by decide), fun c => absurd c (by decide), fun c => absurd c (by decide), fun c => absurd c (by decide), fun c => absurd c (by decide), fun c => absurd c (by decide), fun _ => ⟨a2, ?_⟩, fun c => absurd c (by decide), fun c => absurd c (by decide), fun c => absurd c (by decide)⟩
        refine yes ⟨fun _ => ⟨fun c => absurd c (by decide), fun c => absurd c (by decide), fun c => absurd c (by decide), fun c => absurd c (by decide), fun c => absurd c (by decide), fun c => absurd c (by decide), fun _ => ⟨hv, ?_⟩, fun c => absurd c (by decide), fun c => absurd c (by decide), fun c => absurd c (by decide)⟩, fun c => absurd c (by decide)⟩
        exact ⟨by rw [ej]; exact b9, keep⟩
      | 6, _, hs =>
        subst hs
        refine ⟨fun c => absurd c (by decide), fun c => absurd c (by decide), fun c => absurd c (by decide), fun c => absurd c (by decide), fun c => absurd c (by decide), fun c => absurd c (by decide), fun c => absurd c (by decide), fun _ => ⟨a2, ?_⟩, fun c => absurd c (by decide), fun c => absurd c (by decide)⟩
        refine yes ⟨fun _ => ⟨fun c => absurd c (by decide), fun c => absurd c (by decide), fun c => absurd c (by decide), fun c => absurd c (by decide), fun c => absurd c (by decide), fun c => absurd c (by decide), fun c => absurd c (by decide), fun _ => ⟨hv, ?_⟩, fun c => absurd c (by decide), fun c => absurd c (by decide)⟩, fun c => absurd c (by decide)⟩
        exact ⟨by rw [ej]; exact b10, keep⟩
      | 7, _, hs =>
        subst hs
        refine ⟨fun c => absurd c (by decide), fun c => absurd c (by decide), fun c => absurd c (by decide), fun c => absurd c (by decide), fun c => absurd c (by decide), fun c => absurd c (by decide), fun c => absurd c (by decide), fun c => absurd c (by decide), fun _ => ⟨a2, ?_⟩, fun c => absurd c (by decide)⟩
        rw [b11, eld]
        refine e_bitCount hld ?_
        refine yes ⟨fun _ => ⟨fun c => absurd c (by decide), fun c => absurd c (by decide), fun c => absurd c (by decide), fun c => absurd c (by decide), fun c => absurd c (by decide), fun c => absurd c (by decide), fun c => absurd c (by decide), fun c => absurd c (by decide), fun _ => ⟨hv, ?_⟩, fun c => absurd c (by decide)⟩, fun c => absurd c (by decide)⟩
        rw [ej, eld]
        exact e_countBits hN (by omega) ⟨rfl, keep⟩
      | 8, _, hs =>
        subst hs
        refine ⟨fun c => absurd c (by decide), fun c => absurd c (by decide), fun c => absurd c (by decide), fun c => absurd c (by decide), fun c => absurd c (by decide), fun c => absurd c (by decide), fun c => absurd c (by decide), fun c => absurd c (by decide), fun c => absurd c (by decide), fun _ => ⟨a2, ?_⟩⟩
        refine yes ⟨fun _ => ⟨fun c => absurd c (by decide), fun c => absurd c (by decide), fun c => absurd c (by decide), fun c => absurd c (by decide), fun c => absurd c (by decide), fun c => absurd c (by decide), fun c => absurd c (by decide), fun c => absurd c (by decide), fun c => absurd c (by decide), fun _ => ⟨hv, ?_⟩⟩, fun c => absurd c (by decide)⟩
        exact ⟨by rw [ej]; exact b5, keep⟩
      | k + 9, hk, _ => exact absurd hk (by omega)
  · refine e_lawOf_no ec hn hv ⟨fun _ => ?_, fun q e => by cases e⟩
    exact e_isWant_no ew hn hv ⟨fun c => absurd rfl c, fun _ => ⟨rfl, keep⟩⟩
/-- a bit of a set put on or off: what both sides make of it -/
theorem bitput {a p : Nat} {v : Int32} (hp : p < 20) (ha : a < 2 ^ 20) (hv : v = 0 ∨ v = 1) : ∃ c, (if v = 1 then nI a ||| ((1 : Int32) <<< (nI p &&& 31)) else nI a &&& (((1 : Int32) <<< (nI p &&& 31)) ^^^ (-1))) = nI c ∧ (∀ q, p < q → a < 2 ^ q → c < 2 ^ q) ∧ c < 2 ^ 20 := by
  by_cases h : v = 1
  · rw [if_pos h, shl_1 (by omega), fa_or]
    exact ⟨_, rfl, fun q hq h => Nat.or_lt_two_pow h (Nat.pow_lt_pow_right (by omega) hq), Nat.or_lt_two_pow ha (Nat.pow_lt_pow_right (by omega) hp)⟩
  · rw [if_neg h]
    obtain ⟨c, h1, h2⟩ := and_some a (((1 : Int32) <<< (nI p &&& 31)) ^^^ (-1))
    exact ⟨c, h2, fun q hq h => by omega, by omega⟩
theorem isBit_cases (v : Int32) : (v = 0 ∨ v = 1) ∨ (¬ v = 0 ∧ ¬ v = 1) := by
  by_cases a : v = 0
  · exact Or.inl (Or.inl a)
  · by_cases b : v = 1
    · exact Or.inl (Or.inr b)
    · exact Or.inr ⟨a, b⟩
theorem e_isBit_yes {v : Int32} {Q : Int32 → Prop} (hv : v = 0 ∨ v = 1) (h : Q 1) : fX5_isBit N v Q := by
  unfold fX5_isBit
  rcases hv with rfl | rfl
  · exact ⟨fun _ => h, fun c => absurd rfl c⟩
  · exact ⟨fun _ => h, fun _ => ⟨fun c => absurd rfl c, fun _ => h⟩⟩
theorem e_isBit_no {v : Int32} {Q : Int32 → Prop} (hv : ¬ v = 0 ∧ ¬ v = 1) (h : Q 0) : fX5_isBit N v Q := ⟨fun c => absurd c hv.1, fun _ => ⟨fun _ => h, fun c => absurd c hv.2⟩⟩
theorem e_w01_yes {v : Int32} {Q : Int32 → Prop} (hv : v = 0 ∨ v = 1) (h : Q 1) : fX6_within N v 0 1 Q := by
  unfold fX6_within
  rcases hv with rfl | rfl
  · exact wi_yes (by decide) (by decide) h
  · exact wi_yes (by decide) (by decide) h
theorem e_w01_no {v : Int32} {Q : Int32 → Prop} (hv : ¬ v = 0 ∧ ¬ v = 1) (h : Q 0) : fX6_within N v 0 1 Q := by
  unfold fX6_within
  refine wc_no (lo := 0) (hi := 1) (by omega) (by omega) (fun ⟨j, _, h2, h3⟩ => ?_) h
  rcases (show j = 0 ∨ j = 1 by omega) with rfl | rfl
  · exact hv.1 h3
  · exact hv.2 h3
theorem e_withBit {x p v : Int32} {Q : Int32 → Prop} (h : Q (if v = 1 then x ||| ((1 : Int32) <<< (p &&& 31)) else x &&& (((1 : Int32) <<< (p &&& 31)) ^^^ (-1)))) : fX5_withBit N x p v Q := by
  unfold fX5_withBit
  by_cases c : v = 1
  · rw [if_pos c] at h
    exact ⟨fun d => absurd c d, fun _ => h⟩
  · rw [if_neg c] at h
    exact ⟨fun _ => h, fun d => absurd d c⟩
theorem step_25 (h : Inv sb lw st sp sd ss sy si lp pf S) (v w z : Int32) : cL_25 N sb lw st sp sd ss sy si lp pf S v w z Inv := by
  have keep := h
  obtain ⟨n, ad, hW, hT, hD, hR, hP, hPl, hTr⟩ := h
  obtain ⟨hn, ec, ew, hl, inj, hz⟩ := id hW
  obtain ⟨pk, hpk, ep1, ep2, hpp⟩ := id hP
  unfold cL_25 fX5_lead fX6_lead
  by_cases hv : ∃ j, j < n ∧ v = nI j
  · obtain ⟨j, hj, e⟩ := hv
    subst e
    obtain ⟨a1, a2, a3, a4⟩ := hl j hj
    obtain ⟨b1, b2, b3, b4, b5, b6, b7, b8, b9, b10, b11⟩ := a3
    obtain ⟨k1, k2, k3, k4, k5, ld, hld, eld⟩ := a4
    have hv : vp_in (nI j) 20 := vp_in_nI (by omega) (by omega)
    have ej : (nI j).toNatClampNeg = j := nI_clamp (by omega)
    refine e_lawOf_yes ec hn hj ?_
    rw [a1]
    refine ⟨fun c => (by cases c), fun q e => ?_⟩
    cases e
    by_cases hw : ∃ p, p < pk ∧ w = nI p
    · obtain ⟨p, hp, e⟩ := hw
      subst e
      refine e_has_yes ep1 hpk hp ⟨fun c => absurd c (by decide), fun _ => ?_⟩
      rcases isBit_cases z with hz1 | hz0
      · refine e_isBit_yes hz1 ⟨fun _ => ⟨a2, ?_⟩, fun c => absurd c (by decide)⟩
        refine e_isIn (by omega) (e_bit ⟨a2, e_withBit ⟨a2, nm_e ?_⟩⟩)
        refine e_isWant_yes ew hn hj ⟨fun c => absurd c (by decide), fun _ => ?_⟩
        refine e_isPart_yes ep2 hpk hp ⟨fun c => absurd c (by decide), fun _ => ?_⟩
        refine e_w01_yes hz1 ⟨fun _ => ⟨hv, nm_e ⟨hv, hv, nm_e ⟨?_, ?_⟩⟩⟩, fun c => absurd c (by decide)⟩
        · rw [sshr_bit (by omega), ej, b11]
        · obtain ⟨c, hc1, hc2, hc3⟩ := bitput (a := ld) (p := p) (v := z) (by omega) hld hz1
          refine ⟨n, ad, ?_, hT, hD, hR, hP, hPl, hTr⟩
          have e5 : ((S.2.1 34 (nI j).toNatClampNeg) &&& (((1 : Int32) <<< (nI p &&& 31)) ^^^ (-1 : Int32))) ||| (z <<< (nI p &&& 31)) = nI c := by
            rw [put_bit hz1 rfl, ej, eld, hc1]
          rw [e5, b11, eld, hc1]
          refine IW_set hW hj ⟨b1, b2, b3, b4, b5, b6, b7, b8, b9, b10, ?_⟩ ⟨k1, k2, k3, k4, k5, c, hc3, ?_⟩ (fun i hi q => ⟨rfl, ?_⟩)
          · show nI c = upd (S.2.1 34) (nI j).toNatClampNeg (nI c) j
            rw [ej, pk_us]
          · show upd (S.2.1 34) (nI j).toNatClampNeg (nI c) j = _
            rw [ej, pk_us]
          · show upd (S.2.1 34) (nI j).toNatClampNeg (nI c) i = _
            rw [ej, pk_un q]
      · refine e_isBit_no hz0 ⟨fun c => absurd rfl c, fun _ => ?_⟩
        refine e_isWant_yes ew hn hj ⟨fun c => absurd c (by decide), fun _ => ?_⟩
        refine e_isPart_yes ep2 hpk hp ⟨fun c => absurd c (by decide), fun _ => ?_⟩
        exact e_w01_no hz0 ⟨fun c => absurd rfl c, fun _ => ⟨rfl, keep⟩⟩
    · refine e_has_no ep1 hpk hw ⟨fun _ => ?_, fun c => absurd rfl c⟩
      refine e_isWant_yes ew hn hj ⟨fun c => absurd c (by decide), fun _ => ?_⟩
      exact e_isPart_no ep2 hpk hw ⟨fun _ => ⟨rfl, keep⟩, fun c => absurd rfl c⟩
  · refine e_lawOf_no ec hn hv ⟨fun _ => ?_, fun q e => by cases e⟩
    exact e_isWant_no ew hn hv ⟨fun _ => ⟨rfl, keep⟩, fun c => absurd rfl c⟩
theorem step_24 (h : Inv sb lw st sp sd ss sy si lp pf S) (v w z : Int32) : cL_24 N sb lw st sp sd ss sy si lp pf S v w z Inv := by
  have keep := h
  obtain ⟨n, ad, hW, hT, hD, hR, hP, hPl, hTr⟩ := h
  obtain ⟨pk, hpk, ep1, ep2, hpp⟩ := id hP
  unfold cL_24 fX5_use fX2_link fX6_use
  have within_no : ∀ (j : Nat) {Q : Int32 → Prop}, j < pk → (¬ ∃ p, p < j ∧ w = nI p) → Q 0 → fX6_within N w 0 (nI j - 1) Q := by
    intro j Q hj hw hq
    unfold fX6_within
    refine wi_no ?_ hq
    by_cases c1 : w < 0
    · exact Or.inl c1
    · obtain ⟨q, h1, h2⟩ := nI_of c1
      subst h2
      refine Or.inr (Int32.lt_iff_toInt_lt.mpr ?_)
      show (nI j - nI 1).toInt < _
      rw [pk_sub_toInt (by omega) (by omega), nI_toInt h1]
      have : j ≤ q := by
        rcases Nat.lt_or_ge q j with a | a
        · exact absurd ⟨q, a, rfl⟩ hw
        · exact a
      omega
  have within_yes : ∀ (j p : Nat) {Q : Int32 → Prop}, j < pk → p < j → Q 1 → fX6_within N (nI p) 0 (nI j - 1) Q := by
    intro j p Q hj hp hq
    unfold fX6_within
    refine wi_yes (nI_pos (by omega)) ?_ hq
    obtain ⟨m, rfl⟩ : ∃ m, j = m + 1 := ⟨j - 1, by omega⟩
    rw [nI_pred]
    exact nI_nlt (by omega) (by omega)
  rcases isBit_cases z with hz1 | hz0
  · refine e_isBit_yes hz1 ⟨fun c => absurd c (by decide), fun _ => ?_⟩
    by_cases hv : ∃ j, j < pk ∧ v = nI j
    · obtain ⟨j, hj, e⟩ := hv
      subst e
      have hvi : vp_in (nI j) 20 := vp_in_nI (by omega) (by omega)
      have ej : (nI j).toNatClampNeg = j := nI_clamp (by omega)
      refine e_has_yes ep1 hpk hj ⟨fun c => absurd c (by decide), fun _ => ?_⟩
      by_cases hw : ∃ p, p < j ∧ w = nI p
      · obtain ⟨p, hp, e⟩ := hw
        subst e
        obtain ⟨u, a, ha, ea⟩ := hpp j (by omega)
        have ha20 : a < 2 ^ 20 := Nat.lt_of_lt_of_le ha (Nat.pow_le_pow_right (by omega) (by omega))
        refine e_has_yes ep1 hpk (show p < pk by omega) ⟨fun c => absurd c (by decide), fun _ => ⟨fun _ => ⟨hvi, ?_⟩, fun c => absurd (nI_lt hp (by omega)) c⟩⟩
        refine e_isIn (by omega) (e_bit ⟨hvi, e_withBit ⟨hvi, nm_e ?_⟩⟩)
        refine e_isPart_yes ep2 hpk hj ⟨fun c => absurd c (by decide), fun _ => ?_⟩
        refine within_yes j p hj hp ⟨fun c => absurd c (by decide), fun _ => ?_⟩
        refine e_w01_yes hz1 ⟨fun _ => ⟨hvi, nm_e ⟨hvi, hvi, nm_e ⟨?_, ?_⟩⟩⟩, fun c => absurd c (by decide)⟩
        · rw [sshr_bit (by omega), ej, u]
        · obtain ⟨c, hc1, hc2, hc3⟩ := bitput (a := a) (p := p) (v := z) (by omega) ha20 hz1
          refine ⟨n, ad, hW, hT, hD, hR, ⟨pk, hpk, ep1, ep2, fun i hi => ?_⟩, hPl, hTr⟩
          have e5 : ((S.2.1 33 (nI j).toNatClampNeg) &&& (((1 : Int32) <<< (nI p &&& 31)) ^^^ (-1 : Int32))) ||| (z <<< (nI p &&& 31)) = nI c := by
            rw [put_bit hz1 rfl, ej, ea, hc1]
          rw [e5, ej, u, ea, hc1]
          show upd (sp.2.1 0) j (nI c) i = upd (S.2.1 33) j (nI c) i ∧ ∃ c', c' < 2 ^ i ∧ upd (S.2.1 33) j (nI c) i = nI c'
          by_cases q : i = j
          · subst q
            rw [pk_us, pk_us]
            exact ⟨rfl, c, hc2 i hp ha, rfl⟩
          · rw [pk_un q, pk_un q]
            exact hpp i hi
      · have stop : fX6_isPart N S (nI j) (fun r1 => ((r1 = 0 → (-1 : Int32) = -1 ∧ Inv sb lw st sp sd ss sy si lp pf S) ∧ (¬ r1 = 0 → (fX6_within N w 0 (nI j - 1) (fun r3 => ((r3 = 0 → (-1 : Int32) = -1 ∧ Inv sb lw st sp sd ss sy si lp pf S) ∧ (¬ r3 = 0 → False))))))) :=
          e_isPart_yes ep2 hpk hj ⟨fun c => absurd c (by decide), fun _ => within_no j hj hw ⟨fun _ => ⟨rfl, keep⟩, fun c => absurd rfl c⟩⟩
        by_cases hw2 : ∃ p, p < pk ∧ w = nI p
        · obtain ⟨p, hp, e⟩ := hw2
          subst e
          refine e_has_yes ep1 hpk hp ⟨fun c => absurd c (by decide), fun _ => ⟨fun c => ?_, fun _ => ?_⟩⟩
          · exact absurd ⟨p, (nI_ltI (by omega) (by omega)).mp c, rfl⟩ hw
          · exact e_isPart_yes ep2 hpk hj ⟨fun c => absurd c (by decide), fun _ => within_no j hj hw ⟨fun _ => ⟨rfl, keep⟩, fun c => absurd rfl c⟩⟩
        · refine e_has_no ep1 hpk hw2 ⟨fun _ => ?_, fun c => absurd rfl c⟩
          exact e_isPart_yes ep2 hpk hj ⟨fun c => absurd c (by decide), fun _ => within_no j hj hw ⟨fun _ => ⟨rfl, keep⟩, fun c => absurd rfl c⟩⟩
    · refine e_has_no ep1 hpk hv ⟨fun _ => ?_, fun c => absurd rfl c⟩
      exact e_isPart_no ep2 hpk hv ⟨fun _ => ⟨rfl, keep⟩, fun c => absurd rfl c⟩
  · refine e_isBit_no hz0 ⟨fun _ => ?_, fun c => absurd rfl c⟩
    by_cases hv : ∃ j, j < pk ∧ v = nI j
    · obtain ⟨j, hj, e⟩ := hv
      subst e
      refine e_isPart_yes ep2 hpk hj ⟨fun c => absurd c (by decide), fun _ => ?_⟩
      by_cases hw : ∃ p, p < j ∧ w = nI p
      · obtain ⟨p, hp, e⟩ := hw
        subst e
        exact within_yes j p hj hp ⟨fun c => absurd c (by decide), fun _ => e_w01_no hz0 ⟨fun c => absurd rfl c, fun _ => ⟨rfl, keep⟩⟩⟩
      · exact within_no j hj hw ⟨fun _ => ⟨rfl, keep⟩, fun c => absurd rfl c⟩
    · exact e_isPart_no ep2 hpk hv ⟨fun _ => ⟨rfl, keep⟩, fun c => absurd rfl c⟩
end WANTS
