/-! a round of losing -/
section LOSE
variable {N : Nat} {ls : List Lw} {G : RS} {C : Nat → Prop}
/-- the list of open places, as it lies -/
def OL (op : List Nat) (c : Int32) (a5 : Nat → Int32) : Prop := c = nI op.length ∧ op.length ≤ 1024 ∧ (∀ j q, op[j]? = some q → a5 j = nI q)
/-- a game after r rounds -/
def SV (ls : List Lw) (C : Nat → Prop) (r : Nat) (op : List Nat) (G : RS) : Prop := GG ls G ∧ OL op (G.1 6) (G.2.1 5) ∧ op.Nodup ∧ (∀ q, q ∈ op ↔ C q ∧ ¬ Lst ls r q) ∧ LV ls C r (G.2.1 7)
/-- places: below 1024, closed under ticks -/
def CL (ls : List Lw) (C : Nat → Prop) : Prop := (∀ q, C q → q < 1024) ∧ ∀ p t q, C p → t < 64 → gst ls p t = some q → C q
noncomputable def nl (ls : List Lw) (r q : Nat) : Bool := @decide (¬ Lst ls r q) (Classical.propDecidable _)
theorem nl_t {r q : Nat} : nl ls r q = true ↔ ¬ Lst ls r q := by
  unfold nl
  exact @decide_eq_true_iff _ (Classical.propDecidable _)
theorem e_lose1 {p r : Nat} {O : Int64} {Q : Int32 → Prop} (hN : 100 ≤ N) (hO : ∀ t, t < 64 → (tb O t = true ↔ ∃ q, gst ls p t = some q ∧ ¬ Lst ls r q)) (h : ∀ k, (8 ≤ k ↔ ¬ Lst ls (r + 1) p) → k ≤ 8 → Q (nI k)) : fX0_firstWithoutOut N O Q := by
  refine e_fwo hN (fun k hk h1 h2 => h k ⟨fun h8 hL => ?_, fun hn => ?_⟩ hk)
  · obtain ⟨i, hi, ho⟩ := hL
    obtain ⟨o, ho8, hb⟩ := h1 i (by omega)
    obtain ⟨q, hq, hl⟩ := (hO (8 * i + o) (by omega)).mp hb
    exact hl (ho o ho8 q hq)
  · refine Classical.byContradiction (fun c => hn ⟨k, by omega, fun o ho8 q hq => ?_⟩)
    refine Classical.byContradiction (fun hl => h2 (by omega) o ho8 ((hO (8 * k + o) (by omega)).mpr ⟨q, hq, hl⟩))
/-- rows five, seven and the pieces -/
def lS (G : RS) (a5 a7 : Nat → Int32) (mk : Nat → Int64) (en : Nat → Int32) : RS := spS (sA (sA G 7 a7) 5 a5) mk en
theorem lS_5 (G : RS) (a5 a7 b : Nat → Int32) (mk : Nat → Int64) (en : Nat → Int32) : sA (lS G a5 a7 mk en) 5 b = lS G b a7 mk en := by
  show sA (sA (sM (sA (sA G 7 a7) 5 a5) 8 mk) 9 en) 5 b = sA (sM (sA (sA G 7 a7) 5 b) 8 mk) 9 en
  unfold sA sM
  refine Prod.ext rfl (Prod.ext (funext fun j => ?_) rfl)
  show up (up (up (up G.2.1 7 a7) 5 a5) 9 en) 5 b j = up (up (up G.2.1 7 a7) 5 b) 9 en j
  by_cases q : j = 5
  · subst q
    rw [up_same, up_ne (by decide), up_same]
  · rw [up_ne q]
    by_cases q9 : j = 9
    · subst q9
      rw [up_same, up_same]
    · rw [up_ne q9, up_ne q9, up_ne q, up_ne q]
theorem lS_7 (G : RS) (a5 a7 b : Nat → Int32) (mk : Nat → Int64) (en : Nat → Int32) : sA (lS G a5 a7 mk en) 7 b = lS G a5 b mk en := by
  show sA (sA (sM (sA (sA G 7 a7) 5 a5) 8 mk) 9 en) 7 b = sA (sM (sA (sA G 7 b) 5 a5) 8 mk) 9 en
  unfold sA sM
  refine Prod.ext rfl (Prod.ext (funext fun j => ?_) rfl)
  show up (up (up (up G.2.1 7 a7) 5 a5) 9 en) 7 b j = up (up (up G.2.1 7 b) 5 a5) 9 en j
  by_cases q : j = 7
  · subst q
    rw [up_same, up_ne (by decide), up_ne (by decide), up_same]
  · rw [up_ne q]
    by_cases q9 : j = 9
    · subst q9
      rw [up_same, up_same]
    · rw [up_ne q9, up_ne q9]
      by_cases q5 : j = 5
      · subst q5
        rw [up_same, up_same]
      · rw [up_ne q5, up_ne q5, up_ne q, up_ne q]
theorem lS_self (G : RS) : lS G (G.2.1 5) (G.2.1 7) (G.2.2.2 8) (G.2.1 9) = G := by
  show (G.1, up (up (up G.2.1 7 (G.2.1 7)) 5 (G.2.1 5)) 9 (G.2.1 9), G.2.2.1, up G.2.2.2 8 (G.2.2.2 8)) = G
  refine Prod.ext rfl (Prod.ext (funext fun j => ?_) (Prod.ext rfl (funext fun j => ?_)))
  · show up (up (up G.2.1 7 (G.2.1 7)) 5 (G.2.1 5)) 9 (G.2.1 9) j = G.2.1 j
    by_cases q9 : j = 9
    · subst q9
      rw [up_same]
    · rw [up_ne q9]
      by_cases q5 : j = 5
      · subst q5
        rw [up_same]
      · rw [up_ne q5]
        by_cases q7 : j = 7
        · subst q7
          rw [up_same]
        · rw [up_ne q7]
  · show up G.2.2.2 8 (G.2.2.2 8) j = G.2.2.2 j
    by_cases q : j = 8
    · subst q
      rw [up_same]
    · rw [up_ne q]
end LOSE
