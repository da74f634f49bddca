/-! the reference's safe places -/
theorem p4 {k : Nat} (h : k ≤ 5) : 4 ^ k ≤ 1024 := Nat.le_trans (Nat.pow_le_pow_right (by omega) h) (by decide)
theorem MB_lt {ls : List Lw} {S : RS} (hM : MB ls S) : ∀ l ∈ ls, ∀ s t z, s < 4 → nx l s t = some z → z < 4 := by
  intro l hl s t z hs hz
  obtain ⟨i, hi⟩ := List.getElem?_of_mem hl
  obtain ⟨w', a', m', -, -, hm', -, -, -, el⟩ := hM i l hi
  rw [el] at hz
  have := nx_lt hm' (show s ≤ 3 by omega) hz
  omega
/-- how many below n -/
def cz (g : Nat → Bool) : Nat → Nat
  | 0 => 0
  | n + 1 => cz g n + (if g n then 1 else 0)
theorem cz_s (g : Nat → Bool) (n : Nat) : cz g (n + 1) = cz g n + (if g n then 1 else 0) := rfl
theorem cz_le (g : Nat → Bool) : ∀ n, cz g n ≤ n
  | 0 => Nat.le_refl _
  | n + 1 => by
    rw [cz_s]
    have := cz_le g n
    split <;> omega
theorem cz_un {g g' : Nat → Bool} : ∀ n, (∀ q, q < n → g' q = g q) → cz g' n = cz g n
  | 0, _ => rfl
  | n + 1, h => by rw [cz_s, cz_s, cz_un n (fun q hq => h q (by omega)), h n (by omega)]
theorem cz_up {g g' : Nat → Bool} {p : Nat} (h1 : g p = true) (h0 : g' p = false) (hq : ∀ q, q ≠ p → g' q = g q) : ∀ n, p < n → cz g' n < cz g n
  | 0, h => absurd h (by omega)
  | n + 1, h => by
    rw [cz_s, cz_s]
    by_cases z : n = p
    · subst z
      rw [cz_un n (fun q hq' => hq q (by omega)), h1, h0]
      simp
    · have := cz_up h1 h0 hq n (by omega)
      rw [hq n z]
      omega
theorem Lst_sup {ls : List Lw} {p i : Nat} : ∀ k, (∀ o, o < k → ∀ q, gst ls p (8 * i + o) = some q → ∃ m, Lst ls m q) → ∃ m, ∀ o, o < k → ∀ q, gst ls p (8 * i + o) = some q → Lst ls m q
  | 0, _ => ⟨0, fun o ho => absurd ho (by omega)⟩
  | k + 1, h => by
    obtain ⟨m, hm⟩ := Lst_sup k (fun o ho => h o (by omega))
    cases hg : gst ls p (8 * i + k) with
    | none =>
      refine ⟨m, fun o ho q e => ?_⟩
      by_cases z : o = k
      · subst z
        rw [hg] at e
        cases e
      · exact hm o (by omega) q e
    | some q0 =>
      obtain ⟨m', hm'⟩ := h k (by omega) q0 hg
      refine ⟨m + m', fun o ho q e => ?_⟩
      by_cases z : o = k
      · subst z
        rw [hg] at e
        cases e
        exact Lst_mono (by omega) hm'
      · exact Lst_mono (by omega) (hm o (by omega) q e)
theorem safe_of {ls : List Lw} {X : Nat} {f : Nat → Int32} (hc : ∀ p, p < X → ¬ f p = 0 → ∀ i, i < 8 → ∃ o, o < 8 ∧ ∃ q, gst ls p (8 * i + o) = some q ∧ ¬ f q = 0) (hX : ∀ p t q, gst ls p t = some q → q < X) : ∀ m p, p < X → ¬ f p = 0 → ¬ Lst ls m p
  | 0, _, _, _ => fun h => h
  | m + 1, p, hp, hf => fun ⟨i, hi, hL⟩ => by
    obtain ⟨o, ho, q, e, hq⟩ := hc p hp hf i hi
    exact safe_of hc hX m q (hX _ _ _ e) hq (hL o ho q e)
def nz (f : Nat → Int32) (q : Nat) : Bool := decide (¬ f q = 0)
theorem e_findSafeB {N : Nat} {ls : List Lw} {S : RS} {Q : RS → Prop} (hN : 1100 ≤ N) (h5 : ls.length ≤ 5) (h16 : S.1 16 = nI ls.length) (hM : MB ls S) (h : ∀ S', fs S S' → S'.1 17 = nI (4 ^ ls.length) → ST ls S' → (∀ q, q < 4 ^ ls.length → ((¬ S'.2.1 19 q = 0 ↔ Safe ls q) ∧ (S'.2.1 19 q = 0 ∨ S'.2.1 19 q = 1))) → Q S') : fX6_findSafe N S Q := by
  unfold fX6_findSafe
  refine e_findSteps (by omega) h5 h16 hM (fun S1 f1 k1 t1 => ?_)
  have hX := p4 h5
  have hg : ∀ p t q, gst ls p t = some q → q < 4 ^ ls.length := fun p t q e => gst_lt (MB_lt hM) e
  obtain ⟨X, eX⟩ : ∃ X, X = 4 ^ ls.length := ⟨_, rfl⟩
  rw [← eX] at h hX hg k1
  have round : ∀ (R : Int32 → RS → Prop) (s0 : RS), (fs S s0 ∧ s0.1 17 = nI X ∧ ST ls s0) → (∀ q, q < X → (s0.2.1 19 q = 0 → ∃ m, Lst ls m q) ∧ (s0.2.1 19 q = 0 ∨ s0.2.1 19 q = 1)) → ((∀ p, p < X → ¬ s0.2.1 19 p = 0 → ∀ i, i < 8 → ∃ o, o < 8 ∧ ∃ q, gst ls p (8 * i + o) = some q ∧ ¬ s0.2.1 19 q = 0) → R 0 s0) → (∀ s', (fs S s' ∧ s'.1 17 = nI X ∧ ST ls s') → (∀ q, q < X → (s'.2.1 19 q = 0 → ∃ m, Lst ls m q) ∧ (s'.2.1 19 q = 0 ∨ s'.2.1 19 q = 1)) → cz (nz (s'.2.1 19)) X < cz (nz (s0.2.1 19)) X → R 1 s') → fX6_findSafe_37 N R Q N 0 0 s0 := by
    intro R s0 hJ hS hR0 hR1
    have key := loop_i (σ := Int32 × RS) (fun w i s => fX6_findSafe_37 N R Q w s.1 (nI i) s.2) (fun i s => (fs S s.2 ∧ s.2.1 17 = nI X ∧ ST ls s.2) ∧ (∀ q, q < X → (s.2.2.1 19 q = 0 → ∃ m, Lst ls m q) ∧ (s.2.2.1 19 q = 0 ∨ s.2.2.1 19 q = 1)) ∧ ((s.1 = 0 ∧ s.2 = s0 ∧ ∀ p, p < i → ¬ s0.2.1 19 p = 0 → ∀ i, i < 8 → ∃ o, o < 8 ∧ ∃ q, gst ls p (8 * i + o) = some q ∧ ¬ s0.2.1 19 q = 0) ∨ (s.1 = 1 ∧ cz (nz (s.2.2.1 19)) X < cz (nz (s0.2.1 19)) X))) X ?_ ?_ N 0 (0, s0) (by omega) (by omega) ⟨hJ, hS, Or.inl ⟨rfl, rfl, fun p hp => absurd hp (by omega)⟩⟩
    · exact key
    · rintro w ⟨v, s⟩ ⟨a, b, c⟩
      refine lp_end a.2.1 ?_
      rcases c with ⟨c1, c2, c3⟩ | ⟨c1, c2⟩
      · have c1 : v = 0 := c1
        have c2 : s = s0 := c2
        subst c1
        subst c2
        exact hR0 c3
      · have c1 : v = 1 := c1
        subst c1
        exact hR1 s a b c2
    · rintro w i ⟨v, s⟩ hi ⟨a, b, c⟩ ih
      have a : fs S s ∧ s.1 17 = nI X ∧ ST ls s := a
      have b : ∀ q, q < X → (s.2.1 19 q = 0 → ∃ m, Lst ls m q) ∧ (s.2.1 19 q = 0 ∨ s.2.1 19 q = 1) := b
      refine lp_in a.2.1 (by omega) hi ⟨vp_in_nI (by omega) (by omega), ?_⟩
      show (s.2.1 19 (nI i).toNatClampNeg = 0 → _) ∧ (¬ s.2.1 19 (nI i).toNatClampNeg = 0 → _)
      rw [nI_clamp (by omega)]
      refine ⟨fun z => nm_r (nI_1 i) (ih (v, s) ⟨a, b, ?_⟩), fun z => ?_⟩
      · rcases c with ⟨c1, c2, c3⟩ | c
        · refine Or.inl ⟨c1, c2, fun p hp hz => ?_⟩
          have c2 : s = s0 := c2
          subst c2
          by_cases q : p = i
          · subst q
            exact absurd z hz
          · exact c3 p (by omega) hz
        · exact Or.inr c
      · refine e_holdsOut (by omega) a.2.2 (by omega) (fun t _ q e => Nat.lt_of_lt_of_le (hg _ _ _ e) hX) (fun hh => ⟨fun _ => nm_r (nI_1 i) (ih (v, s) ⟨a, b, ?_⟩), fun c => absurd c (by decide)⟩) (fun k hk hh => ⟨fun c => absurd rfl c, fun _ => ⟨vp_in_nI (by omega) (by omega), nm_e (nm_r (nI_1 i) (ih (1, sA s 19 (upd (s.2.1 19) i 0)) ⟨⟨⟨gf_A a.1.1 (Or.inr (Or.inr (Or.inr (Or.inl rfl)))) _, a.1.2⟩, a.2⟩, ?_, Or.inr ⟨rfl, ?_⟩⟩))⟩⟩)
        · rcases c with ⟨c1, c2, c3⟩ | c
          · refine Or.inl ⟨c1, c2, fun p hp hz => ?_⟩
            have c2 : s = s0 := c2
            subst c2
            by_cases q : p = i
            · subst q
              exact hh
            · exact c3 p (by omega) hz
          · exact Or.inr c
        · intro q hq
          show (upd (s.2.1 19) i 0 q = 0 → _) ∧ (upd (s.2.1 19) i 0 q = 0 ∨ upd (s.2.1 19) i 0 q = 1)
          by_cases zq : q = i
          · subst zq
            refine ⟨fun _ => ?_, Or.inl pk_us⟩
            obtain ⟨m, hm⟩ := Lst_sup (ls := ls) (p := q) (i := k) 8 (fun o ho q' e => (b q' (hg _ _ _ e)).1 (hh o ho q' e))
            exact ⟨m + 1, k, hk, hm⟩
          · rw [pk_un zq]
            exact b q hq
        · show cz (nz (upd (s.2.1 19) i 0)) X < _
          have lt : cz (nz (upd (s.2.1 19) i 0)) X < cz (nz (s.2.1 19)) X := cz_up (p := i) (decide_eq_true z) (by unfold nz; rw [pk_us]; rfl) (fun q hq => by unfold nz; rw [pk_un hq]) X hi
          rcases c with ⟨c1, c2, c3⟩ | ⟨c1, c2⟩
          · have c2 : s = s0 := c2
            subst c2
            exact lt
          · exact Nat.lt_trans lt c2
  have out : ∀ (w : Nat) (s : RS), (fs S s ∧ s.1 17 = nI X ∧ ST ls s) → (∀ q, q < X → (s.2.1 19 q = 0 → ∃ m, Lst ls m q) ∧ (s.2.1 19 q = 0 ∨ s.2.1 19 q = 1)) → cz (nz (s.2.1 19)) X + 1 < w → fX6_findSafe_29 N (fun S20 => Q S20) Q w 1 s := by
    intro w
    induction w with
    | zero => intro s _ _ hw; omega
    | succ w ih =>
      intro s hJ hS hw
      refine ⟨fun c => absurd c (by decide), fun _ => round _ s hJ hS (fun hh => ?_) (fun s' j' n' hlt => ih s' j' n' (by omega))⟩
      obtain ⟨w, rfl⟩ : ∃ w', w = w' + 1 := ⟨w - 1, by omega⟩
      refine ⟨fun _ => h s hJ.1 hJ.2.1 hJ.2.2 (fun q hq => ⟨⟨fun hz m => safe_of hh hg m q hq hz, fun hs hz => ?_⟩, (hS q hq).2⟩), fun c => absurd rfl c⟩
      obtain ⟨m, hm⟩ := (hS q hq).1 hz
      exact hs m hm
  have first := loop_i (σ := RS) (fun w i s => fX6_findSafe_6 N (fun S6 => (fX6_findSafe_29 N (fun S20 => Q S20) Q N 1 S6)) Q w (nI i) s) (fun i s => (fs S s ∧ s.1 17 = nI X ∧ ST ls s) ∧ ∀ q, q < i → s.2.1 19 q = 1) X ?_ ?_ N 0 S1 (by omega) (by omega) ⟨⟨f1, k1, t1⟩, fun q hq => absurd hq (by omega)⟩
  · exact first
  · rintro w s ⟨a, b⟩
    refine lp_end a.2.1 (out N s a (fun q hq => ⟨fun hz => absurd ((b q hq).symm.trans hz) (by decide), Or.inr (b q hq)⟩) ?_)
    have := cz_le (nz (s.2.1 19)) X
    omega
  · rintro w i s hi ⟨a, b⟩ ih
    refine lp_in a.2.1 (by omega) hi ⟨vp_in_nI (by omega) (by omega), ?_⟩
    rw [nI_clamp (by omega)]
    refine nm_e (nm_r (nI_1 i) (ih _ ⟨⟨⟨gf_A a.1.1 (Or.inr (Or.inr (Or.inr (Or.inl rfl)))) _, a.1.2⟩, a.2⟩, fun q hq => ?_⟩))
    show upd (s.2.1 19) i 1 q = 1
    by_cases z : q = i
    · subst z
      exact pk_us
    · rw [pk_un z]
      exact b q (by omega)
theorem e_findSafe {N : Nat} {ls : List Lw} {S : RS} {Q : RS → Prop} (hN : 1100 ≤ N) (h5 : ls.length ≤ 5) (h16 : S.1 16 = nI ls.length) (hM : MB ls S) (h : ∀ S', fs S S' → S'.1 17 = nI (4 ^ ls.length) → ST ls S' → (∀ q, q < 4 ^ ls.length → (¬ S'.2.1 19 q = 0 ↔ Safe ls q)) → Q S') : fX6_findSafe N S Q :=
  e_findSafeB hN h5 h16 hM (fun S' a b c d => h S' a b c (fun q hq => (d q hq).1))
