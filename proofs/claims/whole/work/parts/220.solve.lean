/-! rounds until none is lost -/
theorem filt_all {f : Nat → Bool} {l : List Nat} (h : l.length ≤ (l.filter f).length) : ∀ x, x ∈ l → f x = true := by
  induction l with
  | nil => intro x hx; cases hx
  | cons a l ih =>
    cases ha : f a with
    | false =>
      rw [List.filter_cons_of_neg (by rw [ha]; decide), List.length_cons] at h
      have : (l.filter f).length ≤ l.length := List.length_filter_le ..
      omega
    | true =>
      rw [List.filter_cons_of_pos ha, List.length_cons, List.length_cons] at h
      intro x hx
      rcases List.mem_cons.mp hx with e | e
      · rw [e]; exact ha
      · exact ih (by omega) x e
section SOLVE
variable {N : Nat} {ls : List Lw} {G : RS} {C : Nat → Prop}
theorem stable {r : Nat} (hC : CL ls C) (h : ∀ q, C q → ¬ Lst ls r q → ¬ Lst ls (r + 1) q) : ∀ m q, C q → Lst ls m q → Lst ls r q := by
  intro m
  induction m with
  | zero => intro q _ hl; exact hl.elim
  | succ m ih =>
    intro q hq hl
    obtain ⟨i, hi, ho⟩ := hl
    refine Classical.byContradiction (fun hn => h q hq hn ⟨i, hi, fun o ho8 q' hq' => ?_⟩)
    exact ih q' (hC.2 q (8 * i + o) q' hq (by omega) hq') (ho o ho8 q' hq')
/-- a solved game: all places weighed, or place 0 lost -/
def SD (ls : List Lw) (C : Nat → Prop) (v1 : Int32) (G : RS) : Prop := ∃ (r : Nat) (op : List Nat), r ≤ 1024 ∧ SV ls C r op G ∧ ((∀ q, C q → ¬ Lst ls r q → Safe ls q) ∨ (v1 = 0 ∧ Lst ls r 0))
theorem e_solve {op : List Nat} {v1 : Int32} {Q : RS → Prop} (hN : 1100 ≤ N) (hC : CL ls C) (h0 : C 0) (hG : GG ls G) (hO : OL op (G.1 6) (G.2.1 5)) (hnd : op.Nodup) (hmem : ∀ q, q ∈ op ↔ C q) (h : ∀ G', SD ls C v1 G' → Q G') : fX0_solve N G v1 Q := by
  obtain ⟨ec, hlen, h5⟩ := id hO
  have rounds : ∀ (w r : Nat) (op' : List Nat) (G' : RS), r ≤ 1024 → 1025 - r < w → op'.length + r ≤ 1024 → SV ls C r op' G' → fX0_solve_30 N v1 (fun G16 => Q G16) Q w (nI (r + 1)) G' := by
    intro w
    induction w with
    | zero => intro r op' G' _ hw; omega
    | succ w ih =>
      intro r op' G' hr hw hl hS
      by_cases q : r = 1024
      · subst q
        refine ⟨fun _ => h G' ⟨1024, op', Nat.le_refl _, hS, Or.inl (fun q hq hn => ?_)⟩, fun c => absurd (nI_lt (a := 1024) (b := 1025) (by omega) (by omega)) c⟩
        have hq := (hS.2.2.2.1 q).mpr ⟨hq, hn⟩
        have : op' = [] := List.eq_nil_of_length_eq_zero (by omega)
        rw [this] at hq
        cases hq
      · refine ⟨fun c => absurd (show nI 1024 < nI (r + 1) from c) (nI_nlt (by omega) (by omega)), fun _ => ?_⟩
        refine e_loseSome hN hC (by omega) hS (fun G9 hS9 => ⟨fun hle => ⟨fun _ => ?_, fun c => absurd rfl c⟩, fun hlt => ⟨fun c => absurd c (by decide), fun _ => ?_⟩⟩)
        · refine h G9 ⟨r + 1, _, by omega, hS9, Or.inl (fun q hq hn m hm => ?_)⟩
          have st : ∀ q, C q → ¬ Lst ls r q → ¬ Lst ls (r + 1) q := fun q hq hn => nl_t.mp (filt_all hle q ((hS.2.2.2.1 q).mpr ⟨hq, hn⟩))
          exact hn (Lst_up (stable hC st m q hq hm))
        · have go := ih (r + 1) _ G9 (by omega) (by omega) (by omega) hS9
          refine ⟨fun _ => nm_r (nI_1 _) go, fun c => ⟨vp_in_nI (n := 0) (by omega) (by omega), fun _ => nm_r (nI_1 _) go, fun c0 => ?_⟩⟩
          refine h G9 ⟨r + 1, _, by omega, hS9, Or.inr ⟨c, ?_⟩⟩
          obtain ⟨m, em, hm, hh⟩ := hS9.2.2.2.2 0 h0
          rcases hh with ⟨z, _⟩ | ⟨_, z, _⟩
          · subst z
            exact absurd em c0
          · exact Lst_mono hm z
  have key := loop_i (σ := Nat → Int32) (fun w j a7 => fX0_solve_2 N v1 (fun G6 => (fX0_solve_30 N v1 (fun G16 => Q G16) Q N 1 G6)) Q w (nI j) (sA G 7 a7)) (fun j a7 => ∀ q, q ∈ op.take j → a7 q = 0) op.length ?_ ?_ N 0 (G.2.1 7) (by omega) (by omega) (fun q hq => (by simp at hq))
  · have e : sA G 7 (G.2.1 7) = G := by
      unfold sA
      refine Prod.ext rfl (Prod.ext (funext fun j => ?_) rfl)
      show up G.2.1 7 (G.2.1 7) j = G.2.1 j
      by_cases q : j = 7
      · subst q
        rw [up_same]
      · rw [up_ne q]
    rw [e] at key
    exact key
  · intro w a7 ha
    rw [List.take_length] at ha
    refine lp_end ec (rounds N 0 op (sA G 7 a7) (by omega) (by omega) (by omega) ⟨hG, hO, hnd, fun q => ?_, fun q hq => ⟨0, ha q ((hmem q).mpr hq), Nat.le_refl _, Or.inl ⟨rfl, fun c => c⟩⟩⟩)
    rw [hmem]
    exact ⟨fun c => ⟨c, fun z => z⟩, fun c => c.1⟩
  · intro w j a7 hj ha ih
    obtain ⟨p, hp⟩ : ∃ p, op[j]? = some p := ⟨op[j], List.getElem?_eq_getElem hj⟩
    have hp1 := hC.1 p ((hmem p).mp (List.mem_of_getElem? hp))
    have et : op.take (j + 1) = op.take j ++ [p] := by rw [List.take_succ, hp]; rfl
    refine lp_in ec (by omega) hj ⟨vp_in_nI (by omega) (by omega), ?_⟩
    rw [nI_clamp (by omega), show (sA G 7 a7).2.1 5 j = nI p from h5 j p hp, nI_clamp (by omega)]
    refine ⟨vp_in_nI (by omega) (by omega), nm_e (nm_r (nI_1 j) ?_)⟩
    rw [sA_2]
    refine ih _ (fun q hq => ?_)
    show upd a7 p 0 q = 0
    by_cases z : q = p
    · subst z
      rw [pk_us]
    · rw [pk_un z]
      rw [et, List.mem_append, List.mem_singleton] at hq
      exact ha q (hq.resolve_right z)
theorem SD_Rk {v1 : Int32} (h : SD ls C v1 G) (h1 : ¬ v1 = 0) : ∀ q, C q → ∃ r, r ≤ 1024 ∧ G.2.1 7 q = nI r ∧ Rk ls q r := by
  obtain ⟨r, op, hr, hS, hf⟩ := h
  intro q hq
  obtain ⟨m, em, hm, hh⟩ := hS.2.2.2.2 q hq
  refine ⟨m, by omega, em, ?_⟩
  rcases hh with ⟨z, hn⟩ | z
  · exact Or.inl ⟨z, (hf.resolve_right (fun c => h1 c.1)) q hq hn⟩
  · exact Or.inr z
theorem SD_0 {v1 : Int32} (h : SD ls C v1 G) (h0 : C 0) : ∃ r, r ≤ 1024 ∧ G.2.1 7 0 = nI r ∧ Rk ls 0 r := by
  obtain ⟨r, op, hr, hS, hf⟩ := h
  obtain ⟨m, em, hm, hh⟩ := hS.2.2.2.2 0 h0
  refine ⟨m, by omega, em, ?_⟩
  rcases hh with ⟨z, hn⟩ | z
  · rcases hf with f | f
    · exact Or.inl ⟨z, f 0 h0 hn⟩
    · exact absurd f.2 hn
  · exact Or.inr z
end SOLVE
