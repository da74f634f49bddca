/-! what is left open, and who can lose -/
section OPEN
variable {N : Nat} {ls : List Lw} {G : RS}
theorem spS_2 (G : RS) (mk mk' : Nat → Int64) (en en' : Nat → Int32) : spS (spS G mk en) mk' en' = spS G mk' en' := by
  show sA (sM (spS G mk en) 8 mk') 9 en' = _
  rw [spS_m, spS_e]
theorem GG_sp (h : GG ls G) (mk : Nat → Int64) (en : Nat → Int32) : GG ls (spS G mk en) := h
theorem e_openBefore {p : Nat} {v2 : Int32} {Q : Int64 → RS → Prop} (hN : 100 ≤ N) (hG : GG ls G) (hp : p < 2 ^ 31) (h : ∀ O mk en, (∀ t, t < 64 → (tb O t = true ↔ ∃ q, gst ls p t = some q ∧ (G.2.1 7 q = 0 ∨ ¬ G.2.1 7 q < v2))) → Q O (spS G mk en)) : fX0_openBefore N G (nI p) v2 Q := by
  have h5 := hG.1
  unfold fX0_openBefore
  rw [hG.2.1]
  refine e_unbroken hN hG hp (Nat.le_refl _) (fun M hM => ?_)
  rw [List.take_length] at hM
  refine e_split hN hG hp (fun t ht hb => by rw [← hM t ht]; exact hb) (fun c mk en hc hpc hcov => ?_)
  have key := loop_i (σ := Int64) (fun w i x => fX0_openBefore_21 N (spS G mk en) v2 (nI c) (fun x14 => Q x14 (spS G mk en)) Q w x (nI i)) (fun i x => ∀ t, t < 64 → (tb x t = true ↔ ∃ j, j < i ∧ tb (mk j) t = true ∧ (G.2.1 7 (en j).toNatClampNeg = 0 ∨ ¬ G.2.1 7 (en j).toNatClampNeg < v2))) c (fun w s hs => lp_end rfl (h s mk en (fun t ht => ?_))) (fun w i s hi hs ih => lp_in rfl (by omega) hi ?_) N 0 0 (by omega) (by omega) (fun t ht => by rw [tb_0]; exact ⟨fun c => (by cases c), fun ⟨j, hj, _⟩ => absurd hj (by omega)⟩)
  · exact key
  · rw [hs t ht]
    constructor
    · rintro ⟨j, hj, hb, hk⟩
      obtain ⟨e, he, ee, hx⟩ := hpc j hj
      have he2 : e < 2 ^ 31 := Nat.lt_of_lt_of_le he (Nat.le_trans (pw5 h5) (by omega))
      rw [ee, nI_clamp he2] at hk
      exact ⟨e, (hx t ht hb).2, hk⟩
    · rintro ⟨q, hq, hk⟩
      obtain ⟨j, hj, hb⟩ := hcov t ht (by rw [hM t ht, hq]; rfl)
      obtain ⟨e, he, ee, hx⟩ := hpc j hj
      have he2 : e < 2 ^ 31 := Nat.lt_of_lt_of_le he (Nat.le_trans (pw5 h5) (by omega))
      have h2 := (hx t ht hb).2
      rw [hq] at h2
      cases h2
      refine ⟨j, hj, hb, ?_⟩
      rw [ee, nI_clamp he2]
      exact hk
  · obtain ⟨e, he, ee, hx⟩ := hpc i hi
    have he2 : e < 1024 := Nat.lt_of_lt_of_le he (pw5 h5)
    have ei : (nI i).toNatClampNeg = i := nI_clamp (by omega)
    have eq9 : (spS G mk en).2.1 9 (nI i).toNatClampNeg = en i := by rw [ei]; rfl
    rw [eq9]
    refine ⟨vp_in_nI (by omega) (by omega), by rw [ee]; exact vp_in_nI he2 (by omega), nm_e ?_⟩
    have keepIt : (G.2.1 7 (en i).toNatClampNeg = 0 ∨ ¬ G.2.1 7 (en i).toNatClampNeg < v2) → fX0_openBefore_52 N (spS G mk en) v2 (nI c) s (nI i) (fun v4 v6 => fX0_openBefore_21 N (spS G mk en) v2 (nI c) (fun x14 => Q x14 (spS G mk en)) Q w v4 v6) (fun x14 => Q x14 (spS G mk en)) Q := by
      intro hk
      refine ⟨vp_in_nI (by omega) (by omega), ?_⟩
      rw [ei]
      refine nm_e (nm_r (nI_1 i) (ih _ (fun t ht => ?_)))
      rw [tb_or, Bool.or_eq_true, hs t ht]
      constructor
      · rintro (⟨j, hj, r⟩ | hb)
        · exact ⟨j, by omega, r⟩
        · exact ⟨i, by omega, hb, hk⟩
      · rintro ⟨j, hj, r⟩
        by_cases q : j = i
        · subst q
          exact Or.inr r.1
        · exact Or.inl ⟨j, by omega, r⟩
    refine ⟨fun c0 => keepIt (Or.inl c0), fun c0 => ⟨fun c1 => nm_r (nI_1 i) (ih _ (fun t ht => ?_)), fun c1 => keepIt (Or.inr c1)⟩⟩
    rw [hs t ht]
    constructor
    · rintro ⟨j, hj, r⟩
      exact ⟨j, by omega, r⟩
    · rintro ⟨j, hj, r⟩
      by_cases q : j = i
      · subst q
        rcases r.2 with z | z
        · exact absurd z c0
        · exact absurd c1 z
      · exact ⟨j, by omega, r⟩
theorem tb_255 : ∀ i, i < 64 → tb 255 i = decide (i < 8) := by decide
theorem byte0 {O : Int64} {i : Nat} (hi : i < 8) : (((O.toUInt64 >>> (((8 : Int32) * nI i).toInt64.toUInt64 &&& Int64.toUInt64 63)).toInt64) &&& (255 : Int64)) = 0 ↔ ∀ o, o < 8 → ¬ tb O (8 * i + o) = true := by
  rw [show (8 : Int32) * nI i = nI (8 * i) from pk_mul 8 i]
  constructor
  · intro h o ho c
    have := congrArg (fun x => tb x o) h
    simp only [tb_and, tb_0] at this
    rw [lushr_tb (by omega), c, tb_255 o (by omega), decide_eq_true ho] at this
    cases this
  · intro h
    refine l_ext (fun o ho => ?_)
    rw [tb_and, tb_0, lushr_tb (by omega), tb_255 o ho]
    by_cases q : o < 8
    · have := h o q
      cases hb : tb O (8 * i + o) with
      | false => rfl
      | true => exact absurd hb this
    · rw [decide_eq_false q, Bool.and_false]
theorem e_fwo {O : Int64} {Q : Int32 → Prop} (hN : 100 ≤ N) (h : ∀ r, r ≤ 8 → (∀ i, i < r → ∃ o, o < 8 ∧ tb O (8 * i + o) = true) → (r < 8 → ∀ o, o < 8 → ¬ tb O (8 * r + o) = true) → Q (nI r)) : fX0_firstWithoutOut N O Q := by
  have key : ∀ (w i : Nat), i ≤ 8 → 8 - i < w → (∀ i', i' < i → ∃ o, o < 8 ∧ tb O (8 * i' + o) = true) → fX0_firstWithoutOut_2 N O (Q 8) Q w (nI i) := by
    intro w
    induction w with
    | zero => intro i _ h; omega
    | succ w ih =>
      intro i hi hw hp
      by_cases q : i = 8
      · subst q
        exact lp_end (m := 8) (n := 8) rfl (h 8 (by omega) hp (fun c => absurd c (by omega)))
      · have hi8 : i < 8 := by omega
        refine lp_in (m := 8) (n := 8) rfl (by omega) hi8 ⟨fun c => nm_r (nI_1 i) (ih (i + 1) (by omega) (by omega) (fun i' hi' => ?_)), fun c => h i (by omega) hp (fun _ => (byte0 hi8).mp c)⟩
        by_cases q2 : i' = i
        · subst q2
          rw [byte0 hi8] at c
          refine Classical.byContradiction (fun hn => c (fun o ho hb => hn ⟨o, ho, hb⟩))
        · exact hp i' (by omega)
  unfold fX0_firstWithoutOut
  exact key N 0 (by omega) (by omega) (fun i' hi' => absurd hi' (by omega))
theorem Lst_up {m p : Nat} (h : Lst ls m p) : Lst ls (m + 1) p := by
  induction m generalizing p with
  | zero => exact h.elim
  | succ m ih =>
    obtain ⟨i, hi, ho⟩ := h
    exact ⟨i, hi, fun o h8 q hq => ih (ho o h8 q hq)⟩
theorem Lst_mono {m n p : Nat} (hmn : m ≤ n) (h : Lst ls m p) : Lst ls n p := by
  induction n with
  | zero => rw [show m = 0 by omega] at h; exact h
  | succ n ih =>
    by_cases q : m = n + 1
    · subst q; exact h
    · exact Lst_up (ih (by omega))
/-- lost values after r rounds -/
def LV (ls : List Lw) (C : Nat → Prop) (r : Nat) (a7 : Nat → Int32) : Prop := ∀ q, C q → ∃ m, a7 q = nI m ∧ m ≤ r ∧ ((m = 0 ∧ ¬ Lst ls r q) ∨ (0 < m ∧ Lst ls m q ∧ ¬ Lst ls (m - 1) q))
theorem LV_iff {C : Nat → Prop} {r q : Nat} {a7 : Nat → Int32} (h : LV ls C r a7) (hr : r ≤ 1024) (hq : C q) : (a7 q = 0 ∨ ¬ a7 q < nI (r + 1)) ↔ ¬ Lst ls r q := by
  obtain ⟨m, e, hm, hh⟩ := h q hq
  rw [e]
  rcases hh with ⟨rfl, h0⟩ | ⟨h0, h1, h2⟩
  · exact ⟨fun _ => h0, fun _ => Or.inl rfl⟩
  · constructor
    · rintro (c | c)
      · exact absurd c (nI_ne0 h0 (by omega))
      · exact absurd (nI_lt (by omega) (by omega)) c
    · exact fun c => absurd (Lst_mono hm h1) c
end OPEN
