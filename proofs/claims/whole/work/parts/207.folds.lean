/-! calls that run over all wants or parts -/
theorem fold_up {F : Nat → Int32 → Int32 → Prop} {K : Int32 → Prop} {n : Nat} {g : Nat → Int32 → Int32} (he : ∀ w x, K x → F (w + 1) x (nI n)) (hs : ∀ w x j, j < n → F w (g j x) (nI (j + 1)) → F (w + 1) x (nI j)) {N : Nat} (hN : n < N) {x : Int32} (h : K (fold g n x)) : F N x 0 := by
  have key : ∀ (w j : Nat), j ≤ n → n - j < w → F w (fold g j x) (nI j) := by
    intro w
    induction w with
    | zero => intro j _ h; omega
    | succ w ih =>
      intro j hj hw
      by_cases q : j = n
      · subst q
        exact he _ _ h
      · exact hs w _ j (by omega) (ih (j + 1) (by omega) (by omega))
  exact key N 0 (by omega) (by omega)
def foldD (g : Nat → Int32 → Int32) : Nat → Int32 → Int32
  | 0, x => x
  | i + 1, x => foldD g i (g i x)
theorem fold_dn {F : Nat → Int32 → Int32 → Prop} {K : Int32 → Prop} {n : Nat} {g : Nat → Int32 → Int32} (he : ∀ w x, K x → F (w + 1) x (-1)) (hs : ∀ w x j, j < n → F w (g j x) (nI j - 1) → F (w + 1) x (nI j)) {N : Nat} (hN : n < N) {x : Int32} (h : K (foldD g n x)) : F N x (nI n - 1) := by
  have key : ∀ (w j : Nat) (x : Int32), j ≤ n → j < w → K (foldD g j x) → F w x (nI j - 1) := by
    intro w
    induction w with
    | zero => intro j x _ h; omega
    | succ w ih =>
      intro j x hj hw hk
      cases j with
      | zero => exact he _ _ hk
      | succ j =>
        rw [nI_pred]
        exact hs w _ j (by omega) (ih j _ (by omega) (by omega) hk)
  exact key N n x (by omega) (by omega) h
theorem fold_eq {g g' : Nat → Int32 → Int32} {n : Nat} (h : ∀ j, j < n → ∀ x, g j x = g' j x) (x : Int32) : fold g n x = fold g' n x := by
  induction n with
  | zero => rfl
  | succ n ih =>
    show g n (fold g n x) = g' n (fold g' n x)
    rw [ih (fun j hj => h j (by omega)), h n (by omega)]
theorem foldD_eq {g g' : Nat → Int32 → Int32} {n : Nat} (h : ∀ j, j < n → ∀ x, g j x = g' j x) (x : Int32) : foldD g n x = foldD g' n x := by
  induction n generalizing x with
  | zero => rfl
  | succ n ih =>
    show foldD g n (g n x) = foldD g' n (g' n x)
    rw [ih (fun j hj => h j (by omega)), h n (by omega)]
theorem lp_end {m : Int32} {n : Nat} {A B : Prop} (hm : m = nI n) (h : A) : (m ≤ nI n → A) ∧ (¬ m ≤ nI n → B) := ⟨fun _ => h, fun c => absurd (by rw [hm]; exact Int32.le_refl _) c⟩
theorem lp_in {m : Int32} {n j : Nat} {A B : Prop} (hm : m = nI n) (hn : n < 2 ^ 31) (hj : j < n) (h : B) : (m ≤ nI j → A) ∧ (¬ m ≤ nI j → B) := ⟨fun c => absurd (by rw [hm] at c; exact c) (nI_ge hj hn), fun _ => h⟩
theorem sel {b : Bool} {A B : Prop} (h1 : b = true → B) (h0 : b = false → A) : ((if b then (1 : Int32) else 0) = 0 → A) ∧ (¬ (if b then (1 : Int32) else 0) = 0 → B) := by
  cases b
  · exact ⟨fun _ => h0 rfl, fun c => absurd rfl c⟩
  · exact ⟨fun c => absurd c (by decide), fun _ => h1 rfl⟩
theorem sel1 {b : Bool} {A B : Prop} (h1 : b = true → B) (h0 : b = false → A) : (¬ (if b then (1 : Int32) else 0) = 1 → A) ∧ ((if b then (1 : Int32) else 0) = 1 → B) := by
  cases b
  · exact ⟨fun _ => h0 rfl, fun c => absurd c (by decide)⟩
  · exact ⟨fun c => absurd rfl c, fun _ => h1 rfl⟩
theorem m1 (x : Int32) : x + (-1) = x - 1 := (Int32.sub_eq_add_neg x 1).symm
def gU (P : Nat → Int32) (j : Nat) (x : Int32) : Int32 := if P j &&& x = 0 then x else x ||| ((1 : Int32) <<< (nI j &&& 31))
def gD (P : Nat → Int32) (j : Nat) (x : Int32) : Int32 := if bt x j then x ||| P j else x
section FOLDS
variable {N : Nat}
theorem e_withUsers {P : RS} {n : Nat} {x : Int32} {Q : Int32 → Prop} (hN : 30 ≤ N) (hn : n ≤ 20) (hc : P.1 1 = nI n) (h : Q (fold (gU (P.2.1 0)) n x)) : fX2_withUsers N P x Q := by
  unfold fX2_withUsers
  refine fold_up (F := fun w x v => fX2_withUsers_4 N P (fun x7 => Q x7) Q w x v) (K := Q) (g := gU (P.2.1 0)) (fun w x h => lp_end hc h) (fun w x j hj h => ?_) (show n < N by omega) h
  refine lp_in hc (by omega) hj ⟨vp_in_nI (by omega) (by omega), fun c => ?_, fun c => ?_⟩
  · rw [nI_clamp (by omega)] at c
    unfold gU at h
    rw [if_pos c] at h
    exact nm_r (nI_1 j) h
  · rw [nI_clamp (by omega)] at c
    unfold gU at h
    rw [if_neg c] at h
    exact nm_e (nm_r (nI_1 j) h)
theorem e_reachOf {S : RS} {n i : Nat} {Q : Int32 → Prop} (hN : 30 ≤ N) (hn : n ≤ 20) (hi : i < 20) (hc : S.1 32 = nI n) (h : Q (fold (gU (S.2.1 33)) n (S.2.1 34 i))) : fX6_reachOf N S (nI i) Q := by
  unfold fX6_reachOf
  rw [nI_clamp (by omega)]
  refine ⟨vp_in_nI (by omega) (by omega), nm_e ?_⟩
  refine fold_up (F := fun w x v => fX6_reachOf_9 N S (fun x7 => Q x7) Q w x v) (K := Q) (g := gU (S.2.1 33)) (fun w x h => lp_end hc h) (fun w x j hj h => ?_) (show n < N by omega) h
  refine lp_in hc (by omega) hj ⟨vp_in_nI (by omega) (by omega), fun c => ?_, fun c => ?_⟩
  · rw [nI_clamp (by omega)] at c
    unfold gU at h
    rw [if_pos c] at h
    exact nm_r (or_0 x) (nm_r (nI_1 j) h)
  · rw [nI_clamp (by omega)] at c
    unfold gU at h
    rw [if_neg c] at h
    exact nm_e (nm_r (nI_1 j) h)
theorem e_withUsed {P : RS} {n : Nat} {x : Int32} {Q : Int32 → Prop} (hN : 30 ≤ N) (hn : n ≤ 20) (hc : P.1 1 = nI n) (h : Q (foldD (gD (P.2.1 0)) n x)) : fX2_withUsed N P x Q := by
  unfold fX2_withUsed
  rw [hc]
  refine nm_e (fold_dn (F := fun w x v => fX2_withUsed_9 N P (fun x7 => Q x7) Q w x v) (K := Q) (g := gD (P.2.1 0)) (fun w x h => ⟨fun _ => h, fun c => absurd (by decide) c⟩) (fun w x j hj h => ?_) (show n < N by omega) h)
  refine ⟨fun c => absurd c (nI_pos (by omega)), fun _ => e_isIn (by omega) (sel (fun c => ⟨vp_in_nI (by omega) (by omega), ?_⟩) (fun c => ?_))⟩
  · rw [nI_clamp (by omega)]
    unfold gD at h
    rw [if_pos c] at h
    exact nm_e (nm_r (m1 _) h)
  · unfold gD at h
    rw [if_neg (by rw [c]; decide)] at h
    exact nm_r (m1 _) h
theorem e_bare56 {S : RS} {n : Nat} {x : Int32} {K Q : Int32 → Prop} (hN : 30 ≤ N) (hn : n ≤ 20) (h : K (foldD (gD (S.2.1 33)) n x)) : fX6_bare_56 N S K Q N x (nI n - 1) := by
  refine fold_dn (F := fun w x v => fX6_bare_56 N S K Q w x v) (K := K) (g := gD (S.2.1 33)) (fun w x h => ⟨fun _ => h, fun c => absurd (by decide) c⟩) (fun w x j hj h => ?_) (show n < N by omega) h
  refine ⟨fun c => absurd c (nI_pos (by omega)), fun _ => ?_⟩
  rw [sshr_bit (by omega)]
  refine sel1 (fun c => ⟨vp_in_nI (by omega) (by omega), ?_⟩) (fun c => ?_)
  · rw [nI_clamp (by omega)]
    unfold gD at h
    rw [if_pos c] at h
    exact nm_e (nm_r (m1 _) h)
  · unfold gD at h
    rw [if_neg (by rw [c]; decide)] at h
    exact nm_r (or_0 x) (nm_r (m1 _) h)
variable {sb st sp sd ss sy S : RS} {lw si : Nat → Option Nat} {lp : List Nat} {pf : Nat → RS}
theorem step_28 (hN : 30 ≤ N) (h : Inv sb lw st sp sd ss sy si lp pf S) (v : Int32) : cL_28 N sb lw st sp sd ss sy si lp pf S v Inv := by
  have keep := h
  obtain ⟨n, ad, hW, hT, hD, hR, ⟨pk, hpk, ep1, ep2, hpp⟩, hPl, hTr⟩ := h
  obtain ⟨hn, ec, ew, hl, inj, hz⟩ := id hW
  unfold cL_28 fX5_reach fX6_reach
  by_cases hv : ∃ j, j < n ∧ v = nI j
  · obtain ⟨j, hj, e⟩ := hv
    subst e
    obtain ⟨a1, a2, ⟨b1, b2, b3, b4, b5, b6, b7, b8, b9, b10, b11⟩, -⟩ := hl j hj
    refine e_lawOf_yes ec hn hj ?_
    rw [a1]
    refine ⟨fun c => (by cases c), fun q e => ?_⟩
    cases e
    refine ⟨a2, e_withUsers hN hpk ep1 (e_isWant_yes ew hn hj ⟨fun c => absurd c (by decide), fun _ => e_reachOf hN hpk (by omega) ep2 ⟨?_, keep⟩⟩)⟩
    rw [b11]
    refine fold_eq (fun i hi x => ?_) _
    unfold gU
    rw [(hpp i (by omega)).1]
  · refine e_lawOf_no ec hn hv ⟨fun _ => ?_, fun q e => by cases e⟩
    exact e_isWant_no ew hn hv ⟨fun _ => ⟨rfl, keep⟩, fun c => absurd rfl c⟩
def gK (re gu : Nat → Int32) (k : Int32) (e : Nat → Int32 → Int32) (j : Nat) (x : Int32) : Int32 := if kn re gu k j then e j x else x
theorem gK_1 {re gu : Nat → Int32} {k : Int32} {e : Nat → Int32 → Int32} {j : Nat} {x : Int32} (c : kn re gu k j = true) : gK re gu k e j x = e j x := by unfold gK; rw [if_pos c]
theorem gK_0 {re gu : Nat → Int32} {k : Int32} {e : Nat → Int32 → Int32} {j : Nat} {x : Int32} (c : kn re gu k j = false) : gK re gu k e j x = x := by unfold gK; rw [if_neg (by rw [c]; decide)]
theorem step_26 (hN : 30 ≤ N) (h : Inv sb lw st sp sd ss sy si lp pf S) (v : Int32) : cL_26 N sb lw st sp sd ss sy si lp pf S v Inv := by
  have keep := h
  obtain ⟨n, ad, hW, hT, hD, hR, hP, hPl, hTr⟩ := h
  obtain ⟨hn, ec, ew, hl, inj, hz⟩ := id hW
  unfold cL_26 fX5_gaps fX6_gaps
  let e : Nat → Int32 → Int32 := fun j x => if S.2.1 34 j = 0 then x ||| ((1 : Int32) <<< (nI j &&& 31)) else x
  refine e_isDay5 (fun k hk ek => ?_) (fun hk => ?_)
  · refine ⟨fun _ => ?_, fun c => absurd c (by decide)⟩
    refine fold_up (F := fun w x v' => fX5_gaps_13 N sb lw lp pf v _ _ w x v') (g := gK (S.2.1 10) (S.2.1 11) v e) (fun w x h => lp_end ec h) (fun w x j hj h => ?_) (show n < N by omega) ?_
    · obtain ⟨a1, a2, ⟨b1, b2, b3, b4, b5, b6, b7, b8, b9, b10, b11⟩, -⟩ := hl j hj
      have ej : (nI j).toNatClampNeg = j := nI_clamp (by omega)
      have hvi : vp_in (nI j) 20 := vp_in_nI (by omega) (by omega)
      refine lp_in ec (by omega) hj ⟨hvi, ad j, by rw [ej]; exact a1, a2, e_isKnown b9 b10 (sel (fun c => ⟨hvi, ad j, by rw [ej]; exact a1, a2, fun c2 => ?_, fun c2 => ?_⟩) (fun c => ?_))⟩
      · rw [gK_1 c, show e j x = x by show (if _ then _ else _) = _; rw [if_neg (by rw [← b11]; exact c2)]] at h
        exact nm_r (nI_1 j) h
      · rw [gK_1 c, show e j x = _ by show (if _ then _ else _) = _; rw [if_pos (by rw [← b11]; exact c2)]] at h
        exact nm_e (nm_r (nI_1 j) h)
      · rw [gK_0 c] at h
        exact nm_r (nI_1 j) h
    · refine e_isDay6 (fun k' hk' ek' => ⟨fun _ => ?_, fun c => absurd c (by decide)⟩) (fun c => absurd ⟨k, hk, ek⟩ c)
      refine fold_up (F := fun w x v' => fX6_gaps_13 N S v _ _ w x v') (g := gK (S.2.1 10) (S.2.1 11) v e) (fun w x h => lp_end ew h) (fun w x j hj h => ?_) (show n < N by omega) ⟨rfl, keep⟩
      have ej : (nI j).toNatClampNeg = j := nI_clamp (by omega)
      refine lp_in ew (by omega) hj (e_isThere (by omega) (sel (fun c => ⟨vp_in_nI (by omega) (by omega), fun c2 => ?_, fun c2 => ?_⟩) (fun c => ?_)))
      · rw [gK_1 c, show e j x = x by show (if _ then _ else _) = _; rw [if_neg (by rw [ej] at c2; exact c2)]] at h
        exact nm_r (or_0 x) (nm_r (nI_1 j) h)
      · rw [gK_1 c, show e j x = _ by show (if _ then _ else _) = _; rw [if_pos (by rw [ej] at c2; exact c2)]] at h
        exact nm_e (nm_r (nI_1 j) h)
      · rw [gK_0 c] at h
        exact nm_r (or_0 x) (nm_r (nI_1 j) h)
  · refine ⟨fun c => absurd rfl c, fun _ => ?_⟩
    exact e_isDay6 (fun k' hk' ek' => absurd ⟨k', hk', ek'⟩ hk) (fun _ => ⟨fun c => absurd rfl c, fun _ => ⟨rfl, keep⟩⟩)
theorem step_27 (hN : 30 ≤ N) (h : Inv sb lw st sp sd ss sy si lp pf S) (v : Int32) : cL_27 N sb lw st sp sd ss sy si lp pf S v Inv := by
  have keep := h
  obtain ⟨n, ad, hW, hT, hD, hR, ⟨pk, hpk, ep1, ep2, hpp⟩, hPl, hTr⟩ := h
  obtain ⟨hn, ec, ew, hl, inj, hz⟩ := id hW
  unfold cL_27 fX5_bare fX6_bare
  let e : Nat → Int32 → Int32 := fun j x => x ||| S.2.1 34 j
  refine e_isDay5 (fun k hk ek => ?_) (fun hk => ?_)
  · refine ⟨fun _ => ?_, fun c => absurd c (by decide)⟩
    refine fold_up (F := fun w x v' => fX5_bare_13 N sb lw sp lp pf v _ _ w x v') (g := gK (S.2.1 10) (S.2.1 11) v e) (fun w x h => lp_end ec h) (fun w x j hj h => ?_) (show n < N by omega) ?_
    · obtain ⟨a1, a2, ⟨b1, b2, b3, b4, b5, b6, b7, b8, b9, b10, b11⟩, -⟩ := hl j hj
      have ej : (nI j).toNatClampNeg = j := nI_clamp (by omega)
      have hvi : vp_in (nI j) 20 := vp_in_nI (by omega) (by omega)
      refine lp_in ec (by omega) hj ⟨hvi, ad j, by rw [ej]; exact a1, a2, e_isKnown b9 b10 (sel (fun c => ⟨hvi, ad j, by rw [ej]; exact a1, a2, ?_⟩) (fun c => ?_))⟩
      · rw [gK_1 c] at h
        rw [b11]
        exact nm_e (nm_r (nI_1 j) h)
      · rw [gK_0 c] at h
        exact nm_r (nI_1 j) h
    · refine e_withUsed hN hpk ep1 ?_
      refine e_isDay6 (fun k' hk' ek' => ⟨fun _ => ?_, fun c => absurd c (by decide)⟩) (fun c => absurd ⟨k, hk, ek⟩ c)
      refine fold_up (F := fun w x v' => fX6_bare_13 N S v _ _ w x v') (g := gK (S.2.1 10) (S.2.1 11) v e) (fun w x h => lp_end ew h) (fun w x j hj h => ?_) (show n < N by omega) ?_
      · have ej : (nI j).toNatClampNeg = j := nI_clamp (by omega)
        refine lp_in ew (by omega) hj (e_isThere (by omega) (sel (fun c => ⟨vp_in_nI (by omega) (by omega), ?_⟩) (fun c => ?_)))
        · rw [gK_1 c] at h
          rw [ej]
          exact nm_e (nm_r (nI_1 j) h)
        · rw [gK_0 c] at h
          exact nm_r (or_0 x) (nm_r (nI_1 j) h)
      · rw [ep2]
        refine nm_e (e_bare56 hN hpk ⟨?_, keep⟩)
        rw [ep1, foldD_eq (g := gD (sp.2.1 0)) (g' := gD (S.2.1 33)) (fun i hi x => by unfold gD; rw [(hpp i (by omega)).1])]
  · refine ⟨fun c => absurd rfl c, fun _ => ?_⟩
    exact e_isDay6 (fun k' hk' ek' => absurd ⟨k', hk', ek'⟩ hk) (fun _ => ⟨fun c => absurd rfl c, fun _ => ⟨rfl, keep⟩⟩)
theorem step_29 (hN : 30 ≤ N) (h : Inv sb lw st sp sd ss sy si lp pf S) (p v : Int32) : cL_29 N sb lw st sp sd ss sy si lp pf S p v Inv := by
  have keep := h
  obtain ⟨n, ad, hW, hT, hD, hR, ⟨pk, hpk, ep1, ep2, hpp⟩, hPl, hTr⟩ := h
  obtain ⟨hn, ec, ew, hl, inj, hz⟩ := id hW
  unfold cL_29 fX5_wants fX6_wants
  by_cases hp : ∃ i, i < pk ∧ p = nI i
  · obtain ⟨i, hi, ei⟩ := hp
    subst ei
    let e : Nat → Int32 → Int32 := fun j x => if bt (fold (gU (S.2.1 33)) pk (S.2.1 34 j)) i then x ||| ((1 : Int32) <<< (nI j &&& 31)) else x
    have e_1 : ∀ {j x}, bt (fold (gU (S.2.1 33)) pk (S.2.1 34 j)) i = true → e j x = x ||| ((1 : Int32) <<< (nI j &&& 31)) := fun c => if_pos c
    have e_0 : ∀ {j x}, bt (fold (gU (S.2.1 33)) pk (S.2.1 34 j)) i = false → e j x = x := fun c => if_neg (by rw [c]; decide)
    refine e_has_yes ep1 hpk hi ⟨fun c => absurd c (by decide), fun _ => ?_⟩
    refine e_isDay5 (fun k hk ek => ?_) (fun hk => ?_)
    · refine ⟨fun _ => ?_, fun c => absurd c (by decide)⟩
      refine fold_up (F := fun w x v' => fX5_wants_25 N sb lw sp lp pf (nI i) v _ _ w x v') (g := gK (S.2.1 10) (S.2.1 11) v e) (fun w x h => lp_end ec h) (fun w x j hj h => ?_) (show n < N by omega) ?_
      · obtain ⟨a1, a2, ⟨b1, b2, b3, b4, b5, b6, b7, b8, b9, b10, b11⟩, -⟩ := hl j hj
        have ej : (nI j).toNatClampNeg = j := nI_clamp (by omega)
        have hvi : vp_in (nI j) 20 := vp_in_nI (by omega) (by omega)
        refine lp_in ec (by omega) hj ⟨hvi, ad j, by rw [ej]; exact a1, a2, e_isKnown b9 b10 (sel (fun c => ⟨hvi, ad j, by rw [ej]; exact a1, a2, e_withUsers hN hpk ep1 ?_⟩) (fun c => ?_))⟩
        · rw [b11, fold_eq (g := gU (sp.2.1 0)) (g' := gU (S.2.1 33)) (fun i hi x => by unfold gU; rw [(hpp i (by omega)).1])]
          rw [gK_1 c] at h
          refine e_isIn (by omega) (sel (fun c2 => ?_) (fun c2 => ?_))
          · rw [e_1 c2] at h
            exact nm_e (nm_r (nI_1 j) h)
          · rw [e_0 c2] at h
            exact nm_r (nI_1 j) h
        · rw [gK_0 c] at h
          exact nm_r (nI_1 j) h
      · refine e_isPart_yes ep2 hpk hi ⟨fun c => absurd c (by decide), fun _ => ?_⟩
        refine e_isDay6 (fun k' hk' ek' => ⟨fun _ => ?_, fun c => absurd c (by decide)⟩) (fun c => absurd ⟨k, hk, ek⟩ c)
        refine fold_up (F := fun w x v' => fX6_wants_22 N S (nI i) v _ _ w x v') (g := gK (S.2.1 10) (S.2.1 11) v e) (fun w x h => lp_end ew h) (fun w x j hj h => ?_) (show n < N by omega) ⟨rfl, keep⟩
        refine lp_in ew (by omega) hj (e_isThere (by omega) (sel (fun c => e_reachOf hN hpk (by omega) ep2 ?_) (fun c => ?_)))
        · rw [gK_1 c] at h
          rw [sshr_bit (by omega)]
          refine sel1 (fun c2 => ?_) (fun c2 => ?_)
          · rw [e_1 c2] at h
            exact nm_e (nm_r (nI_1 j) h)
          · rw [e_0 c2] at h
            exact nm_r (or_0 x) (nm_r (nI_1 j) h)
        · rw [gK_0 c] at h
          exact nm_r (or_0 x) (nm_r (nI_1 j) h)
    · refine ⟨fun c => absurd rfl c, fun _ => ?_⟩
      refine e_isPart_yes ep2 hpk hi ⟨fun c => absurd c (by decide), fun _ => ?_⟩
      exact e_isDay6 (fun k' hk' ek' => absurd ⟨k', hk', ek'⟩ hk) (fun _ => ⟨fun c => absurd rfl c, fun _ => ⟨rfl, keep⟩⟩)
  · refine e_has_no ep1 hpk hp ⟨fun _ => ?_, fun c => absurd rfl c⟩
    exact e_isPart_no ep2 hpk hp ⟨fun _ => ⟨rfl, keep⟩, fun c => absurd rfl c⟩
theorem step_22 (hN : 300 ≤ N) (h : Inv sb lw st sp sd ss sy si lp pf S) (v : Int32) : cL_22 N sb lw st sp sd ss sy si lp pf S v Inv := by
  have keep := h
  obtain ⟨n, ad, hW, hT, hD, hR, hP, hPl, hTr⟩ := h
  obtain ⟨hn, ec, ew, hl, inj, hz⟩ := id hW
  obtain ⟨rk, tk, hrk, er1, er2, hf1, hf2⟩ := IR_tk hR
  unfold cL_22 fX5_kept fX6_kept
  let e : Nat → Int32 → Int32 := fun j x => if frs ((S.2.1 3 j).toNatClampNeg, (S.2.1 4 j).toNatClampNeg, tb (S.2.2.2 5 j), tb (S.2.2.2 6 j)) tk rk 0 0 = -4 then x + 1 else x
  refine e_isDay5 (fun k hk ek => ?_) (fun hk => ?_)
  · refine ⟨fun _ => ?_, fun c => absurd c (by decide)⟩
    refine fold_up (F := fun w x v' => fX5_kept_13 N sb lw lp pf v _ _ w x v') (g := gK (S.2.1 10) (S.2.1 11) v e) (fun w x h => lp_end ec h) (fun w x j hj h => ?_) (show n < N by omega) ?_
    · obtain ⟨a1, a2, ⟨b1, b2, b3, b4, b5, b6, b7, b8, b9, b10, b11⟩, ⟨⟨a, ha, ea⟩, ⟨m, hm, em⟩, -⟩⟩ := hl j hj
      have ej : (nI j).toNatClampNeg = j := nI_clamp (by omega)
      have hvi : vp_in (nI j) 20 := vp_in_nI (by omega) (by omega)
      have ee : e j x = if frs (a, m, tb (S.2.2.2 5 j), tb (S.2.2.2 6 j)) tk rk 0 0 = -4 then x + 1 else x := by
        show (if _ then _ else _) = _
        rw [ea, em, nI_clamp (by omega), nI_clamp (by omega)]
      refine lp_in ec (by omega) hj ⟨hvi, ad j, by rw [ej]; exact a1, a2, e_isKnown b9 b10 (sel (fun c => ⟨hvi, ad j, by rw [ej]; exact a1, a2, ?_⟩) (fun c => ?_))⟩
      · rw [gK_1 c, ee] at h
        rw [er1]
        refine e_firstBroken hN hrk ha hm (b1.trans ea) (b2.trans em) hf1 ?_
        rw [b3, b4]
        refine ⟨fun c2 => ?_, fun c2 => ?_⟩
        · rw [if_neg c2] at h
          exact nm_r (nI_1 j) h
        · rw [if_pos c2] at h
          exact nm_e (nm_r (nI_1 j) h)
      · rw [gK_0 c] at h
        exact nm_r (nI_1 j) h
    · refine e_isDay6 (fun k' hk' ek' => ⟨fun _ => ?_, fun c => absurd c (by decide)⟩) (fun c => absurd ⟨k, hk, ek⟩ c)
      refine fold_up (F := fun w x v' => fX6_kept_13 N S v _ _ w x v') (g := gK (S.2.1 10) (S.2.1 11) v e) (fun w x h => lp_end ew h) (fun w x j hj h => ?_) (show n < N by omega) ⟨rfl, keep⟩
      obtain ⟨-, -, -, ⟨⟨a, ha, ea⟩, ⟨m, hm, em⟩, -⟩⟩ := hl j hj
      have ee : e j x = if frs (a, m, tb (S.2.2.2 5 j), tb (S.2.2.2 6 j)) tk rk 0 0 = -4 then x + 1 else x := by
        show (if _ then _ else _) = _
        rw [ea, em, nI_clamp (by omega), nI_clamp (by omega)]
      have z0 : x + 0 = x := Int32.add_zero x
      refine lp_in ew (by omega) hj (e_isThere (by omega) (sel (fun c => ?_) (fun c => ?_)))
      · rw [gK_1 c, ee] at h
        refine e_brokenIn hN (by omega) hrk ha hm ea em er2 hf2 ⟨fun c2 => ?_, fun c2 => ?_⟩
        · rw [if_neg c2] at h
          exact nm_r z0 (nm_r (nI_1 j) h)
        · rw [if_pos c2] at h
          exact nm_e (nm_r (nI_1 j) h)
      · rw [gK_0 c] at h
        exact nm_r z0 (nm_r (nI_1 j) h)
  · refine ⟨fun c => absurd rfl c, fun _ => ?_⟩
    exact e_isDay6 (fun k' hk' ek' => absurd ⟨k', hk', ek'⟩ hk) (fun _ => ⟨fun c => absurd rfl c, fun _ => ⟨rfl, keep⟩⟩)
theorem step_30 (hN : 30 ≤ N) (h : Inv sb lw st sp sd ss sy si lp pf S) (v : Int32) : cL_30 N sb lw st sp sd ss sy si lp pf S v Inv := by
  have keep := h
  obtain ⟨n, ad, hW, hT, hD, hR, hP, hPl, hTr⟩ := h
  obtain ⟨hn, ec, ew, hl, inj, hz⟩ := id hW
  obtain ⟨rk, -, er1, er2, -⟩ := hR
  obtain ⟨pk, -, ep1, ep2, -⟩ := hP
  obtain ⟨tk, -, et1, et2, -⟩ := hT
  unfold cL_30 fX5_count fX6_count
  let e : Nat → Int32 → Int32 := fun j x => x + 1
  have six : ∀ {Q : Int32 → Prop}, (∀ x8, x8 = fold (gK (S.2.1 10) (S.2.1 11) (S.1 0) e) n 0 → (((v.toInt < 0 ∨ 5 < v.toInt) → Q (-1)) ∧ (v = 0 → Q (S.1 13)) ∧ (v = 1 → Q (S.1 0)) ∧ (v = 2 → Q x8) ∧ (v = 3 → Q (S.1 31)) ∧ (v = 4 → Q (S.1 32)) ∧ (v = 5 → Q (S.1 2)))) → fX6_count N S v Q := by
    intro Q hQ
    unfold fX6_count
    refine fold_up (F := fun w x v' => fX6_count_4 N S v _ _ w x v') (g := gK (S.2.1 10) (S.2.1 11) (S.1 0) e) (fun w x h => lp_end ew h) (fun w x j hj h => ?_) (show n < N by omega) (hQ _ rfl)
    refine lp_in ew (by omega) hj (e_isThere (by omega) (sel (fun c => ?_) (fun c => ?_)))
    · rw [gK_1 c] at h
      exact nm_e (nm_r (nI_1 j) h)
    · rw [gK_0 c] at h
      exact nm_r (Int32.add_zero x) (nm_r (nI_1 j) h)
  have fin : ∀ (r : Int32), (∀ x8, x8 = fold (gK (S.2.1 10) (S.2.1 11) (S.1 0) e) n 0 → (((v.toInt < 0 ∨ 5 < v.toInt) → r = -1) ∧ (v = 0 → r = S.1 13) ∧ (v = 1 → r = S.1 0) ∧ (v = 2 → r = x8) ∧ (v = 3 → r = S.1 31) ∧ (v = 4 → r = S.1 32) ∧ (v = 5 → r = S.1 2))) → fX6_count N S v (fun r2 => r = r2 ∧ Inv sb lw st sp sd ss sy si lp pf S) := by
    intro r hr
    refine six (fun x8 ex => ?_)
    obtain ⟨h1, h2, h3, h4, h5, h6, h7⟩ := hr x8 ex
    exact ⟨fun c => ⟨h1 c, keep⟩, fun c => ⟨h2 c, keep⟩, fun c => ⟨h3 c, keep⟩, fun c => ⟨h4 c, keep⟩, fun c => ⟨h5 c, keep⟩, fun c => ⟨h6 c, keep⟩, fun c => ⟨h7 c, keep⟩⟩
  refine ⟨fun c => fin _ (fun x8 ex => ?_), fun c => fin _ (fun x8 ex => ?_), fun c => fin _ (fun x8 ex => ?_), fun c => ?_, fun c => fin _ (fun x8 ex => ?_), fun c => fin _ (fun x8 ex => ?_), fun c => fin _ (fun x8 ex => ?_)⟩
  · refine ⟨fun _ => rfl, ?_, ?_, ?_, ?_, ?_, ?_⟩ <;> intro e <;> subst e <;> exact absurd c (by decide)
  · subst c
    exact ⟨fun c => absurd c (by decide), fun _ => ec.trans ew.symm, fun c => absurd c (by decide), fun c => absurd c (by decide), fun c => absurd c (by decide), fun c => absurd c (by decide), fun c => absurd c (by decide)⟩
  · subst c
    exact ⟨fun c => absurd c (by decide), fun c => absurd c (by decide), fun _ => hD.1, fun c => absurd c (by decide), fun c => absurd c (by decide), fun c => absurd c (by decide), fun c => absurd c (by decide)⟩
  · unfold fX5_knownToday
    refine fold_up (F := fun w x v' => fX5_knownToday_4 N sb lw lp pf _ _ w x v') (g := gK (S.2.1 10) (S.2.1 11) (S.1 0) e) (fun w x h => lp_end ec h) (fun w x j hj h => ?_) (show n < N by omega) ?_
    · obtain ⟨a1, a2, ⟨b1, b2, b3, b4, b5, b6, b7, b8, b9, b10, b11⟩, -⟩ := hl j hj
      have ej : (nI j).toNatClampNeg = j := nI_clamp (by omega)
      have hvi : vp_in (nI j) 20 := vp_in_nI (by omega) (by omega)
      refine lp_in ec (by omega) hj ⟨hvi, ad j, by rw [ej]; exact a1, a2, ?_⟩
      rw [hD.1]
      refine e_isKnown b9 b10 (sel (fun c => ?_) (fun c => ?_))
      · rw [gK_1 c] at h
        exact nm_e (nm_r (nI_1 j) h)
      · rw [gK_0 c] at h
        exact nm_r (nI_1 j) h
    · subst c
      refine fin _ (fun x8 ex => ?_)
      exact ⟨fun c => absurd c (by decide), fun c => absurd c (by decide), fun c => absurd c (by decide), fun _ => ex.symm, fun c => absurd c (by decide), fun c => absurd c (by decide), fun c => absurd c (by decide)⟩
  · subst c
    exact ⟨fun c => absurd c (by decide), fun c => absurd c (by decide), fun c => absurd c (by decide), fun c => absurd c (by decide), fun _ => er1.trans er2.symm, fun c => absurd c (by decide), fun c => absurd c (by decide)⟩
  · subst c
    exact ⟨fun c => absurd c (by decide), fun c => absurd c (by decide), fun c => absurd c (by decide), fun c => absurd c (by decide), fun c => absurd c (by decide), fun _ => ep1.trans ep2.symm, fun c => absurd c (by decide)⟩
  · subst c
    exact ⟨fun c => absurd c (by decide), fun c => absurd c (by decide), fun c => absurd c (by decide), fun c => absurd c (by decide), fun c => absurd c (by decide), fun c => absurd c (by decide), fun _ => et1.trans et2.symm⟩
end FOLDS
