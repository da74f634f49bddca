/-! the reference's table of steps -/
def MB (ls : List Lw) (S : RS) : Prop := ∀ i l, ls[i]? = some l → ∃ w a m, w < 20 ∧ a ≤ 2 ∧ m ≤ 3 ∧ S.2.1 14 i = nI w ∧ S.2.1 15 i = nI m ∧ S.2.1 3 w = nI a ∧ l = (a, m, tb (S.2.2.2 5 w), tb (S.2.2.2 6 w))
/-- the table is filled below X -/
def TF (ls : List Lw) (X : Nat) (f : Nat → Int32) : Prop := ∀ i l, ls[i]? = some l → ∀ s, s < 4 → ∀ t, t < 64 → (4 * i + s) * 64 + t < X → f ((4 * i + s) * 64 + t) = (match nx l s t with | none => -4 | some z => nI z)
def fs (S s : RS) : Prop := gf S s ∧ s.1 16 = S.1 16 ∧ s.2.1 14 = S.2.1 14 ∧ s.2.1 15 = S.2.1 15
theorem e_findSteps {N : Nat} {ls : List Lw} {S : RS} {Q : RS → Prop} (hN : 100 ≤ N) (h5 : ls.length ≤ 5) (h16 : S.1 16 = nI ls.length) (hM : MB ls S) (h : ∀ S', fs S S' → S'.1 17 = nI (4 ^ ls.length) → ST ls S' → Q S') : fX6_findSteps N S Q := by
  unfold fX6_findSteps
  refine nm_e ?_
  have key := loop_i (σ := RS) (fun w i s => fX6_findSteps_7 N (fun S16 => Q S16) Q w (nI i) s) (fun i s => fs S s ∧ s.1 17 = nI (4 ^ i) ∧ TF ls (256 * i) (s.2.1 18)) ls.length ?_ ?_ N 0 (sI S 17 1) (by omega) (by omega) ⟨⟨gf_I (gf_0 S) (Or.inr (Or.inl rfl)) 1, rfl, rfl, rfl⟩, rfl, fun i l _ s _ t _ hx => absurd hx (by omega)⟩
  · exact key
  · rintro w s ⟨a, b, c⟩
    refine lp_end (a.2.1.trans h16) (h s a b ⟨h5, a.2.1.trans h16, fun i l hl s' hs' t ht => ⟨?_, fun z hz => ?_⟩⟩)
    · have := (List.getElem?_eq_some_iff.mp hl).1
      exact c i l hl s' hs' t ht (by omega)
    · obtain ⟨w', a', m', -, -, hm', -, -, -, el⟩ := hM i l hl
      rw [el] at hz
      have := nx_lt hm' (show s' ≤ 3 by omega) hz
      omega
  · rintro w i s hi ⟨a, b, c⟩ ih
    refine lp_in (a.2.1.trans h16) (by omega) hi ?_
    rw [b, show (4 : Int32) = nI 4 from rfl, pk_mul, ← Nat.pow_succ]
    refine nm_e ?_
    obtain ⟨l, hl⟩ : ∃ l, ls[i]? = some l := ⟨ls[i], List.getElem?_eq_getElem hi⟩
    obtain ⟨w0, a0, m0, hw0, ha0, hm0, e14, e15, e3, el⟩ := hM i l hl
    have mid := loop_i (σ := RS) (fun w' v s => fX6_findSteps_27 N (nI i) (fun S14 => (∀ x15 : Int32, x15 = nI i + 1 → fX6_findSteps_7 N (fun S16 => Q S16) Q w x15 S14)) Q w' (nI v) s) (fun v s => fs S s ∧ s.1 17 = nI (4 ^ (i + 1)) ∧ TF ls (256 * i + 64 * v) (s.2.1 18)) 4 ?_ ?_ N 0 (sI s 17 (nI (4 ^ (i + 1)))) (by omega) (by omega) ⟨⟨gf_I a.1 (Or.inr (Or.inl rfl)) _, a.2⟩, rfl, c⟩
    · exact mid
    · rintro w' s' ⟨a', b', c'⟩
      exact lp_end (m := 4) (n := 4) rfl (nm_r (nI_1 i) (ih s' ⟨a', b', by rw [show 256 * (i + 1) = 256 * i + 64 * 4 by omega]; exact c'⟩))
    · rintro w' v s' hv ⟨a', b', c'⟩ ih'
      refine lp_in (m := 4) (n := 4) rfl (by omega) hv ?_
      have inn := loop_i (σ := RS) (fun w'' t s => fX6_findSteps_34 N (nI i) (nI v) (fun S12 => (∀ x13 : Int32, x13 = nI v + 1 → fX6_findSteps_27 N (nI i) (fun S14 => (∀ x15 : Int32, x15 = nI i + 1 → fX6_findSteps_7 N (fun S16 => Q S16) Q w x15 S14)) Q w' x13 S12)) Q w'' (nI t) s) (fun t s => fs S s ∧ s.1 17 = nI (4 ^ (i + 1)) ∧ TF ls (256 * i + 64 * v + t) (s.2.1 18)) 64 ?_ ?_ N 0 s' (by omega) (by omega) ⟨a', b', c'⟩
      · exact inn
      · rintro w'' s2 ⟨a2, b2, c2⟩
        exact lp_end (m := 64) (n := 64) rfl (nm_r (nI_1 v) (ih' s2 ⟨a2, b2, by rw [show 256 * i + 64 * (v + 1) = 256 * i + 64 * v + 64 by omega]; exact c2⟩))
      · rintro w'' t s2 ht ⟨a2, b2, c2⟩ ih2
        refine lp_in (m := 64) (n := 64) rfl (by omega) ht ⟨vp_in_nI (by omega) (by omega), vp_in_nI (by omega) (by omega), ?_⟩
        have r3 : s2.2.1 3 = S.2.1 3 := a2.1.2.1 3 (by decide) (by decide) (by decide) (by decide) (by decide)
        have r5 : s2.2.2.2 = S.2.2.2 := a2.1.2.2
        rw [nI_clamp (by omega), a2.2.2.1, a2.2.2.2, e14, e15]
        refine e_stateBehind hw0 ha0 (by omega) hm0 ht (by rw [r3]; exact e3) ?_
        rw [r5, ← el]
        have eix : ((((nI 4 * nI i) + nI v) * (64 : Int32)) + nI t) = nI ((4 * i + v) * 64 + t) := by
          rw [show (64 : Int32) = nI 64 from rfl, pk_mul, nI_add, pk_mul, nI_add]
        rw [show ((((4 : Int32) * nI i) + nI v) * (64 : Int32)) + nI t = nI ((4 * i + v) * 64 + t) from eix, nI_clamp (by omega)]
        refine ⟨vp_in_nI (by omega) (by omega), nm_e (nm_r (nI_1 t) (ih2 _ ⟨⟨gf_A a2.1 (Or.inr (Or.inr (Or.inl rfl))) _, a2.2.1, a2.2.2.1, a2.2.2.2⟩, b2, fun i' l' hl' s'' hs'' t' ht' hx => ?_⟩))⟩
        show upd (s2.2.1 18) ((4 * i + v) * 64 + t) _ ((4 * i' + s'') * 64 + t') = _
        by_cases z : (4 * i' + s'') * 64 + t' = (4 * i + v) * 64 + t
        · have z1 : i' = i := by omega
          have z2 : s'' = v := by omega
          have z3 : t' = t := by omega
          subst z1; subst z2; subst z3
          rw [hl] at hl'
          cases hl'
          rw [pk_us]
          rfl
        · rw [pk_un z]
          exact c2 i' l' hl' s'' hs'' t' ht' (by omega)
