/-! runs, and loops over all wants -/
def fold (g : Nat → Int32 → Int32) : Nat → Int32 → Int32
  | 0, x => x
  | i + 1, x => g i (fold g i x)
def kn (re gu : Nat → Int32) (k : Int32) (i : Nat) : Bool := decide (¬ k < re i ∧ (gu i < 0 ∨ ¬ gu i ≤ k))
theorem e_isKnown {N i : Nat} {L : RS} {re gu : Nat → Int32} {k : Int32} {Q : Int32 → Prop} (e8 : L.1 8 = re i) (e9 : L.1 9 = gu i) (h : Q (if kn re gu k i then 1 else 0)) : fX1_isKnown N L k Q := by
  unfold fX1_isKnown
  rw [e8, e9]
  unfold kn at h
  refine ⟨fun c => ?_, fun c => ⟨fun c1 => ?_, fun c1 => ⟨fun c2 => ?_, fun c2 => ?_⟩⟩⟩
  · simpa [c] using h
  · simpa [c, c1] using h
  · simpa [c, c1, c2] using h
  · simpa [c, c1, c2] using h
theorem e_isThere {N i : Nat} {S : RS} {k : Int32} {Q : Int32 → Prop} (hi : i < 20) (h : Q (if kn (S.2.1 10) (S.2.1 11) k i then 1 else 0)) : fX6_isThere N S (nI i) k Q := by
  have hv : vp_in (nI i) 20 := vp_in_nI (by omega) (by omega)
  unfold fX6_isThere
  rw [nI_clamp (by omega)]
  unfold kn at h
  refine ⟨hv, fun c => ?_, fun c => ⟨hv, fun c1 => ?_, fun c1 => ⟨hv, fun c2 => ?_, fun c2 => ?_⟩⟩⟩
  · simpa [c] using h
  · simpa [c, c1] using h
  · simpa [c, c1, c2] using h
  · simpa [c, c1, c2] using h
/-- the first tick in which a law is broken, -4: none -/
def frs (l : Lw) (tk : Nat → Nat) : Nat → Nat → Nat → Int32
  | 0, _, _ => -4
  | k + 1, s, t => match nx l s (tk t) with
    | none => nI t
    | some z => frs l tk k z (t + 1)
theorem e_firstBroken {N n a m : Nat} {f : Nat → Int32} {tk : Nat → Nat} {L : RS} {Q : Int32 → Prop} (hN : 300 ≤ N) (hn : n ≤ 200) (ha : a ≤ 2) (hm : m ≤ 3) (e0 : L.1 0 = nI a) (e1 : L.1 1 = nI m) (hf : ∀ j, j < n → f j = nI (tk j) ∧ tk j < 64) (h : Q (frs (a, m, tb (L.2.2.1 2), tb (L.2.2.1 3)) tk n 0 0)) : fX1_firstBroken N f L (nI n) Q := by
  have key : ∀ (w s t : Nat), s ≤ 3 → t ≤ n → n - t < w → Q (frs (a, m, tb (L.2.2.1 2), tb (L.2.2.1 3)) tk (n - t) s t) → fX1_firstBroken_5 N f L (nI n) (Q (-4)) Q w (nI s) (nI t) := by
    intro w
    induction w with
    | zero => intro s t _ _ h; omega
    | succ w ih =>
      intro s t hs ht hw hq
      show fX1_firstBroken_5b _ _ _ _ _ _ _ _ _
      unfold fX1_firstBroken_5b
      by_cases q : t = n
      · subst q
        rw [Nat.sub_self] at hq
        exact ⟨fun _ => hq, fun c => absurd (nI_le (Nat.le_refl t) (by omega)) c⟩
      · have ht2 : t < n := by omega
        refine ⟨fun c => absurd c (nI_ge ht2 (by omega)), fun _ => ⟨fun c => absurd (show nI 200 ≤ nI t from c) (nI_ge (by omega) (by omega)), fun _ => ⟨vp_in_nI (by omega) (by omega), ?_⟩⟩⟩
        rw [nI_clamp (by omega), (hf t ht2).1]
        refine e_after ha hs hm (hf t ht2).2 e0 e1 ?_
        obtain ⟨k, hk⟩ : ∃ k, n - t = k + 1 := ⟨n - t - 1, by omega⟩
        rw [hk] at hq
        simp only [frs] at hq
        cases hz : nx (a, m, tb (L.2.2.1 2), tb (L.2.2.1 3)) s (tk t) with
        | none =>
          rw [hz] at hq
          exact ⟨fun c => absurd rfl c, fun _ => hq⟩
        | some z =>
          rw [hz] at hq
          have hz3 := nx_lt hm hs hz
          refine ⟨fun _ => nm_r (nI_1 t) (ih z (t + 1) hz3 (by omega) (by omega) ?_), fun c => ?_⟩
          · rw [show n - (t + 1) = k by omega]
            exact hq
          · exfalso
            have : (nI z).toInt = -1 := by
              have c' : nI z = -1 := c
              rw [c']
              decide
            rw [nI_toInt (by omega)] at this
            omega
  unfold fX1_firstBroken
  exact key N 0 0 (by omega) (by omega) (by omega) h
theorem e_brokenIn {N n a m i : Nat} {tk : Nat → Nat} {S : RS} {Q : Int32 → Prop} (hN : 300 ≤ N) (hi : i < 20) (hn : n ≤ 200) (ha : a ≤ 2) (hm : m ≤ 3) (e0 : S.2.1 3 i = nI a) (e1 : S.2.1 4 i = nI m) (er : S.1 31 = nI n) (hf : ∀ j, j < n → S.2.1 30 j = nI (tk j) ∧ tk j < 64) (h : Q (frs (a, m, tb (S.2.2.2 5 i), tb (S.2.2.2 6 i)) tk n 0 0)) : fX6_brokenIn N S (nI i) Q := by
  have hv : vp_in (nI i) 20 := vp_in_nI (by omega) (by omega)
  have key : ∀ (w s t : Nat), s ≤ 3 → t ≤ n → n - t < w → Q (frs (a, m, tb (S.2.2.2 5 i), tb (S.2.2.2 6 i)) tk (n - t) s t) → fX6_brokenIn_4 N S (nI i) (Q (-4)) Q w (nI s) (nI t) := by
    intro w
    induction w with
    | zero => intro s t _ _ h; omega
    | succ w ih =>
      intro s t hs ht hw hq
      show fX6_brokenIn_4b _ _ _ _ _ _ _ _
      unfold fX6_brokenIn_4b
      rw [er]
      by_cases q : t = n
      · subst q
        rw [Nat.sub_self] at hq
        exact ⟨fun _ => hq, fun c => absurd (nI_le (Nat.le_refl t) (by omega)) c⟩
      · have ht2 : t < n := by omega
        refine ⟨fun c => absurd c (nI_ge ht2 (by omega)), fun _ => ⟨hv, vp_in_nI (by omega) (by omega), ?_⟩⟩
        rw [nI_clamp (by omega), nI_clamp (by omega), (hf t ht2).1, e1]
        refine e_stateBehind hi ha hs hm (hf t ht2).2 e0 ?_
        obtain ⟨k, hk⟩ : ∃ k, n - t = k + 1 := ⟨n - t - 1, by omega⟩
        rw [hk] at hq
        simp only [frs] at hq
        cases hz : nx (a, m, tb (S.2.2.2 5 i), tb (S.2.2.2 6 i)) s (tk t) with
        | none =>
          rw [hz] at hq
          exact ⟨fun c => absurd c (by decide), fun _ => hq⟩
        | some z =>
          rw [hz] at hq
          have hz3 := nx_lt hm hs hz
          refine ⟨fun _ => nm_r (nI_1 t) (ih z (t + 1) hz3 (by omega) (by omega) ?_), fun c => absurd (nI_pos' (by omega)) c⟩
          rw [show n - (t + 1) = k by omega]
          exact hq
  unfold fX6_brokenIn
  exact key N 0 0 (by omega) (by omega) (by omega) h
section LOOPS
variable {N : Nat} {sb st sp sd ss sy S : RS} {lw si : Nat → Option Nat} {lp : List Nat} {pf : Nat → RS}
theorem IR_tk {l m : Int32} {f t : Nat → Int32} (h : IR l f m t) : ∃ (k : Nat) (tk : Nat → Nat), k ≤ 200 ∧ l = nI k ∧ m = nI k ∧ (∀ j, j < k → f j = nI (tk j) ∧ tk j < 64) ∧ (∀ j, j < k → t j = nI (tk j) ∧ tk j < 64) := by
  obtain ⟨k, hk, e1, e2, hf⟩ := h
  refine ⟨k, fun j => (t j).toNatClampNeg, hk, e1, e2, fun j hj => ?_, fun j hj => ?_⟩
  · obtain ⟨u, c, hc, e⟩ := hf j hj
    show f j = nI (t j).toNatClampNeg ∧ (t j).toNatClampNeg < 64
    rw [u, e, nI_clamp (by omega)]
    exact ⟨rfl, hc⟩
  · obtain ⟨u, c, hc, e⟩ := hf j hj
    show t j = nI (t j).toNatClampNeg ∧ (t j).toNatClampNeg < 64
    rw [e, nI_clamp (by omega)]
    exact ⟨rfl, hc⟩
theorem step_21 (hN : 300 ≤ N) (h : Inv sb lw st sp sd ss sy si lp pf S) (v : Int32) : cL_21 N sb lw st sp sd ss sy si lp pf S v Inv := by
  have keep := h
  obtain ⟨n, ad, hW, hT, hD, hR, hP, hPl, hTr⟩ := h
  obtain ⟨hn, ec, ew, hl, inj, hz⟩ := id hW
  obtain ⟨rk, tk, hrk, er1, er2, hf1, hf2⟩ := IR_tk hR
  unfold cL_21 fX5_held fX6_held
  by_cases hv : ∃ j, j < n ∧ v = nI j
  · obtain ⟨j, hj, e⟩ := hv
    subst e
    obtain ⟨a1, a2, ⟨b1, b2, b3, b4, -⟩, ⟨⟨a, ha, ea⟩, ⟨m, hm, em⟩, -⟩⟩ := hl j hj
    refine e_lawOf_yes ec hn hj ?_
    rw [a1]
    refine ⟨fun c => (by cases c), fun q e => ?_⟩
    cases e
    rw [er1]
    refine ⟨a2, e_firstBroken hN hrk ha hm (b1.trans ea) (b2.trans em) hf1 ?_⟩
    refine e_isWant_yes ew hn hj ⟨fun c => absurd c (by decide), fun _ => ?_⟩
    refine e_brokenIn hN (by omega) hrk ha hm ea em er2 hf2 ?_
    rw [b3, b4]
    exact ⟨rfl, keep⟩
  · refine e_lawOf_no ec hn hv ⟨fun _ => ?_, fun q e => by cases e⟩
    exact e_isWant_no ew hn hv ⟨fun _ => ⟨rfl, keep⟩, fun c => absurd rfl c⟩
theorem step_6 (h : Inv sb lw st sp sd ss sy si lp pf S) (v w z : Int32) : cL_6 N sb lw st sp sd ss sy si lp pf S v w z Inv := by
  have keep := h
  obtain ⟨n, ad, hW, hT, hD, hR, hP, hPl, hTr⟩ := h
  obtain ⟨hn, ec, ew, hl, inj, hz⟩ := id hW
  unfold cL_6 fX5_next fX6_next fX5_isWithin fX6_within
  by_cases hv : ∃ j, j < n ∧ v = nI j
  · obtain ⟨j, hj, e⟩ := hv
    subst e
    obtain ⟨a1, a2, ⟨b1, b2, b3, b4, -⟩, ⟨⟨a, ha, ea⟩, ⟨m, hm, em⟩, -⟩⟩ := hl j hj
    refine e_lawOf_yes ec hn hj ?_
    rw [a1]
    refine ⟨fun c => (by cases c), fun q e => ?_⟩
    cases e
    by_cases hw : ∃ s, 0 ≤ s ∧ s ≤ 3 ∧ w = nI s
    · obtain ⟨s, -, hs, e⟩ := hw
      subst e
      refine wc_yes (lo := 0) (hi := 3) (by omega) hs (by omega) ⟨fun c => absurd c (by decide), fun _ => ?_⟩
      by_cases ht : ∃ t, 0 ≤ t ∧ t ≤ 63 ∧ z = nI t
      · obtain ⟨t, -, ht, e⟩ := ht
        subst e
        refine wc_yes (lo := 0) (hi := 63) (by omega) ht (by omega) ⟨fun _ => ⟨a2, ?_⟩, fun c => absurd c (by decide)⟩
        refine e_after ha hs hm (by omega) (b1.trans ea) (b2.trans em) ?_
        have fin : ∀ (r : Int32) (A : Prop), r = (match nx (a, m, tb ((pf (ad j)).2.2.1 2), tb ((pf (ad j)).2.2.1 3)) s t with | none => -4 | some y => nI y) → A → fX6_stateBehind N S (nI j) (S.2.1 4 (nI j).toNatClampNeg) (nI s) (nI t) (fun r8 => r = r8 ∧ A) := by
          intro r A er hA
          rw [nI_clamp (by omega), em]
          refine e_stateBehind (by omega) ha hs hm (by omega) ea ?_
          rw [← b3, ← b4]
          exact ⟨er, hA⟩
        cases hx : nx (a, m, tb ((pf (ad j)).2.2.1 2), tb ((pf (ad j)).2.2.1 3)) s t with
        | none =>
          refine ⟨fun c => absurd rfl c, fun _ => ?_⟩
          refine e_isWant_yes ew hn hj ⟨fun c => absurd c (by decide), fun _ => ?_⟩
          refine wc_yes (lo := 0) (hi := 3) (by omega) hs (by omega) ⟨fun c => absurd c (by decide), fun _ => ?_⟩
          exact wc_yes (lo := 0) (hi := 63) (by omega) ht (by omega) ⟨fun _ => ⟨vp_in_nI (by omega) (by omega), fin _ _ (by rw [hx]) keep⟩, fun c => absurd c (by decide)⟩
        | some y =>
          have hy := nx_lt hm hs hx
          refine ⟨fun _ => ?_, fun c => ?_⟩
          · refine e_isWant_yes ew hn hj ⟨fun c => absurd c (by decide), fun _ => ?_⟩
            refine wc_yes (lo := 0) (hi := 3) (by omega) hs (by omega) ⟨fun c => absurd c (by decide), fun _ => ?_⟩
            exact wc_yes (lo := 0) (hi := 63) (by omega) ht (by omega) ⟨fun _ => ⟨vp_in_nI (by omega) (by omega), fin _ _ (by rw [hx]) keep⟩, fun c => absurd c (by decide)⟩
          · exfalso
            have : (nI y).toInt = -1 := by
              have c' : nI y = -1 := c
              rw [c']
              decide
            rw [nI_toInt (by omega)] at this
            omega
      · refine wc_no (lo := 0) (hi := 63) (by omega) (by omega) ht ⟨fun c => absurd rfl c, fun _ => ?_⟩
        refine e_isWant_yes ew hn hj ⟨fun c => absurd c (by decide), fun _ => ?_⟩
        refine wc_yes (lo := 0) (hi := 3) (by omega) hs (by omega) ⟨fun c => absurd c (by decide), fun _ => ?_⟩
        exact wc_no (lo := 0) (hi := 63) (by omega) (by omega) ht ⟨fun c => absurd rfl c, fun _ => ⟨rfl, keep⟩⟩
    · refine wc_no (lo := 0) (hi := 3) (by omega) (by omega) hw ⟨fun _ => ?_, fun c => absurd rfl c⟩
      refine e_isWant_yes ew hn hj ⟨fun c => absurd c (by decide), fun _ => ?_⟩
      exact wc_no (lo := 0) (hi := 3) (by omega) (by omega) hw ⟨fun _ => ⟨rfl, keep⟩, fun c => absurd rfl c⟩
  · refine e_lawOf_no ec hn hv ⟨fun _ => ?_, fun q e => by cases e⟩
    exact e_isWant_no ew hn hv ⟨fun _ => ⟨rfl, keep⟩, fun c => absurd rfl c⟩
end LOOPS
