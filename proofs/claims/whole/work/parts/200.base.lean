/-! LEVEL 2, pure: numbers, ranges, the invariant -/
theorem lit (n : Nat) : (OfNat.ofNat n : Int32) = nI n := rfl
theorem i_nlt {a b : Int32} : ¬ a < b ↔ b ≤ a := Int32.not_lt
theorem i_nle {a b : Int32} : ¬ a ≤ b ↔ b < a := Int32.not_le
theorem rng_yes {m : Int32} {n j : Nat} {A B : Prop} (hm : m = nI n) (hn : n < 2 ^ 31) (hj : j < n) (hB : B) : ((nI j < 0 → A) ∧ (¬ nI j < 0 → ((m ≤ nI j → A) ∧ (¬ m ≤ nI j → B)))) :=
  ⟨fun c => absurd c (nI_pos (by omega)), fun _ => ⟨fun c => absurd c (by rw [hm]; exact nI_ge hj hn), fun _ => hB⟩⟩
theorem rng_no {m v : Int32} {n : Nat} {A B : Prop} (hm : m = nI n) (hn : n < 2 ^ 31) (hv : ¬ ∃ j, j < n ∧ v = nI j) (hA : A) : ((v < 0 → A) ∧ (¬ v < 0 → ((m ≤ v → A) ∧ (¬ m ≤ v → B)))) := by
  refine ⟨fun _ => hA, fun c => ⟨fun _ => hA, fun c2 => ?_⟩⟩
  rcases pk_ix v hn with h | h | ⟨j, h1, h2⟩
  · exact absurd h c
  · exact absurd (by rw [hm]; exact h) c2
  · exact absurd ⟨j, h1, h2⟩ hv
/-- a test between two numbers -/
theorem wi_yes {a b c : Int32} {A B : Prop} (h1 : ¬ a < b) (h2 : ¬ c < a) (hB : B) : ((a < b → A) ∧ (¬ a < b → ((c < a → A) ∧ (¬ c < a → B)))) := ⟨fun c => absurd c h1, fun _ => ⟨fun c => absurd c h2, fun _ => hB⟩⟩
theorem wi_no {a b c : Int32} {A B : Prop} (h : a < b ∨ c < a) (hA : A) : ((a < b → A) ∧ (¬ a < b → ((c < a → A) ∧ (¬ c < a → B)))) := ⟨fun _ => hA, fun h1 => ⟨fun _ => hA, fun h2 => (h.elim h1 h2).elim⟩⟩
theorem wc_yes {j lo hi : Nat} {A B : Prop} (h1 : lo ≤ j) (h2 : j ≤ hi) (hh : hi < 2 ^ 31) (hB : B) : ((nI j < nI lo → A) ∧ (¬ nI j < nI lo → ((nI hi < nI j → A) ∧ (¬ nI hi < nI j → B)))) := wi_yes (nI_nlt h1 (by omega)) (nI_nlt h2 (by omega)) hB
theorem wc_no {v : Int32} {lo hi : Nat} {A B : Prop} (hh : hi < 2 ^ 31) (hl : lo ≤ hi) (hv : ¬ ∃ j, lo ≤ j ∧ j ≤ hi ∧ v = nI j) (hA : A) : ((v < nI lo → A) ∧ (¬ v < nI lo → ((nI hi < v → A) ∧ (¬ nI hi < v → B)))) := by
  refine wi_no ?_ hA
  by_cases c1 : v < nI lo
  · exact Or.inl c1
  · refine Or.inr ?_
    by_cases c2 : nI hi < v
    · exact c2
    · exfalso
      have h1 : nI lo ≤ v := i_nlt.mp c1
      have h2 : v ≤ nI hi := i_nlt.mp c2
      have h0 : ¬ v < 0 := fun c => by
        have a1 := Int32.le_iff_toInt_le.mp h1
        have a2 := Int32.lt_iff_toInt_lt.mp c
        rw [nI_toInt (by omega)] at a1
        have : (0 : Int32).toInt = 0 := rfl
        omega
      obtain ⟨j, hj, e⟩ := nI_of h0
      subst e
      exact hv ⟨j, (nI_leI (by omega) (by omega)).mp h1, (nI_leI (by omega) (by omega)).mp h2, rfl⟩
theorem isBool_0 : narrow .boolean (.int 0) = .int 0 := rfl
theorem isBool_1 : narrow .boolean (.int 1) = .int 1 := rfl
section SMALL
variable {N : Nat}
theorem e_isWant_yes {S : RS} {n j : Nat} {Q : Int32 → Prop} (hc : S.1 13 = nI n) (hn : n ≤ 20) (hj : j < n) (h : Q 1) : fX6_isWant N S (nI j) Q := rng_yes hc (by omega) hj h
theorem e_isWant_no {S : RS} {n : Nat} {v : Int32} {Q : Int32 → Prop} (hc : S.1 13 = nI n) (hn : n ≤ 20) (hv : ¬ ∃ j, j < n ∧ v = nI j) (h : Q 0) : fX6_isWant N S v Q := rng_no hc (by omega) hv h
theorem e_isPart_yes {S : RS} {n j : Nat} {Q : Int32 → Prop} (hc : S.1 32 = nI n) (hn : n ≤ 20) (hj : j < n) (h : Q 1) : fX6_isPart N S (nI j) Q := rng_yes hc (by omega) hj h
theorem e_isPart_no {S : RS} {n : Nat} {v : Int32} {Q : Int32 → Prop} (hc : S.1 32 = nI n) (hn : n ≤ 20) (hv : ¬ ∃ j, j < n ∧ v = nI j) (h : Q 0) : fX6_isPart N S v Q := rng_no hc (by omega) hv h
theorem e_has_yes {P : RS} {n j : Nat} {Q : Int32 → Prop} (hc : P.1 1 = nI n) (hn : n ≤ 20) (hj : j < n) (h : Q 1) : fX2_has N P (nI j) Q := rng_yes hc (by omega) hj h
theorem e_has_no {P : RS} {n : Nat} {v : Int32} {Q : Int32 → Prop} (hc : P.1 1 = nI n) (hn : n ≤ 20) (hv : ¬ ∃ j, j < n ∧ v = nI j) (h : Q 0) : fX2_has N P v Q := rng_no hc (by omega) hv h
theorem e_lawOf_yes {sb : RS} {lw : Nat → Option Nat} {n j : Nat} {Q : Option Nat → Prop} (hc : sb.1 2 = nI n) (hn : n ≤ 20) (hj : j < n) (h : Q (lw j)) : fX5_lawOf N sb lw (nI j) Q := by
  unfold fX5_lawOf fX5_isWithin
  refine wi_yes (nI_pos (by omega)) ?_ ⟨fun c => absurd c (by decide), fun _ => ⟨vp_in_nI (by omega) (by omega), ?_⟩⟩
  · rw [hc]
    obtain ⟨m, rfl⟩ : ∃ m, n = m + 1 := ⟨n - 1, by omega⟩
    rw [nI_pred]
    exact nI_nlt (by omega) (by omega)
  · rw [nI_clamp (by omega)]
    exact h
theorem e_lawOf_no {sb : RS} {lw : Nat → Option Nat} {n : Nat} {v : Int32} {Q : Option Nat → Prop} (hc : sb.1 2 = nI n) (hn : n ≤ 20) (hv : ¬ ∃ j, j < n ∧ v = nI j) (h : Q none) : fX5_lawOf N sb lw v Q := by
  unfold fX5_lawOf fX5_isWithin
  refine wi_no ?_ ⟨fun _ => h, fun c => absurd rfl c⟩
  by_cases c1 : v < 0
  · exact Or.inl c1
  · refine Or.inr ?_
    obtain ⟨j, hj, e⟩ := nI_of c1
    subst e
    have h2 : n ≤ j := by
      rcases Nat.lt_or_ge j n with q | q
      · exact absurd ⟨j, q, rfl⟩ hv
      · exact q
    rw [hc]
    refine Int32.lt_iff_toInt_lt.mpr ?_
    show (nI n - nI 1).toInt < _
    rw [pk_sub_toInt (by omega) (by omega), nI_toInt hj]
    omega
theorem e_isDay5 {v : Int32} {Q : Int32 → Prop} (h1 : ∀ k, k ≤ 9999 → v = nI k → Q 1) (h0 : (¬ ∃ k, k ≤ 9999 ∧ v = nI k) → Q 0) : fX5_isDay N v Q := by
  unfold fX5_isDay fX5_isWithin
  by_cases hv : ∃ k, k ≤ 9999 ∧ v = nI k
  · obtain ⟨k, hk, e⟩ := hv
    subst e
    exact wc_yes (lo := 0) (hi := 9999) (by omega) hk (by omega) ⟨rfl, h1 k hk rfl⟩
  · exact wc_no (lo := 0) (hi := 9999) (by omega) (by omega) (fun ⟨j, _, h2, h3⟩ => hv ⟨j, h2, h3⟩) ⟨rfl, h0 hv⟩
theorem e_isDay6 {v : Int32} {Q : Int32 → Prop} (h1 : ∀ k, k ≤ 9999 → v = nI k → Q 1) (h0 : (¬ ∃ k, k ≤ 9999 ∧ v = nI k) → Q 0) : fX6_isDay N v Q := by
  unfold fX6_isDay fX6_within
  by_cases hv : ∃ k, k ≤ 9999 ∧ v = nI k
  · obtain ⟨k, hk, e⟩ := hv
    subst e
    exact wc_yes (lo := 0) (hi := 9999) (by omega) hk (by omega) ⟨rfl, h1 k hk rfl⟩
  · exact wc_no (lo := 0) (hi := 9999) (by omega) (by omega) (fun ⟨j, _, h2, h3⟩ => hv ⟨j, h2, h3⟩) ⟨rfl, h0 hv⟩
end SMALL
/-! the invariant: what both sides hold -/
def LR (i : Nat) (L : RS) (so nu : Nat → Int32) (fi se : Nat → Int64) (byt ow wo ea re gu le : Nat → Int32) : Prop :=
  L.1 0 = so i ∧ L.1 1 = nu i ∧ L.2.2.1 2 = fi i ∧ L.2.2.1 3 = se i ∧ L.1 4 = byt i ∧ L.1 5 = ow i ∧ L.1 6 = wo i ∧ L.1 7 = ea i ∧ L.1 8 = re i ∧ L.1 9 = gu i ∧ L.1 10 = le i
def LK (i : Nat) (so nu wo ea le : Nat → Int32) : Prop :=
  (∃ a, a ≤ 2 ∧ so i = nI a) ∧ (∃ a, a ≤ 3 ∧ nu i = nI a) ∧ (so i = 0 → nu i = 0) ∧ (∃ a, 1 ≤ a ∧ a ≤ 99 ∧ wo i = nI a) ∧ (∃ a, 1 ≤ a ∧ a ≤ 99 ∧ ea i = nI a) ∧ (∃ a, a < 2 ^ 20 ∧ le i = nI a)
def IW (n : Nat) (ad : Nat → Nat) (cnt : Int32) (lw : Nat → Option Nat) (lp : List Nat) (pf : Nat → RS) (wa : Int32) (so nu : Nat → Int32) (fi se : Nat → Int64) (byt ow wo ea re gu le : Nat → Int32) : Prop :=
  n ≤ 20 ∧ cnt = nI n ∧ wa = nI n ∧ (∀ i, i < n → lw i = some (ad i) ∧ ad i ∈ lp ∧ LR i (pf (ad i)) so nu fi se byt ow wo ea re gu le ∧ LK i so nu wo ea le) ∧ (∀ i j, i < n → j < n → ad i = ad j → i = j) ∧ (∀ i, n ≤ i → i < 20 → le i = 0)
def IT (l : Int32) (b : Nat → Int32) (m : Int32) (t : Nat → Int32) : Prop := ∃ k, k ≤ 80 ∧ l = nI k ∧ m = nI k ∧ ∀ j, j < k → b j = t j ∧ ∃ c, c < 256 ∧ t j = nI c
def ID (a b : Int32) : Prop := a = b ∧ ∃ k, k ≤ 9999 ∧ b = nI k
def IR (l : Int32) (f : Nat → Int32) (m : Int32) (t : Nat → Int32) : Prop := ∃ k, k ≤ 200 ∧ l = nI k ∧ m = nI k ∧ ∀ j, j < k → f j = t j ∧ ∃ c, c < 64 ∧ t j = nI c
def IP (l : Int32) (f : Nat → Int32) (m : Int32) (t : Nat → Int32) : Prop := ∃ k, k ≤ 20 ∧ l = nI k ∧ m = nI k ∧ ∀ j, j < 20 → f j = t j ∧ ∃ c, c < 2 ^ j ∧ t j = nI c
