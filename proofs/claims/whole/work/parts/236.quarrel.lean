/-! quarrel -/
/-- a part of the set as a number: the first member highest -/
def pkn (set part : Nat) : Nat → Nat
  | 0 => 0
  | w + 1 => if set.testBit w then 2 * pkn set part w + (if part.testBit w then 1 else 0) else pkn set part w
theorem pkn_s (set part w : Nat) : pkn set part (w + 1) = if set.testBit w then 2 * pkn set part w + (if part.testBit w then 1 else 0) else pkn set part w := rfl
theorem rkn_s (set w : Nat) : rkn set (w + 1) = rkn set w + (if set.testBit w then 1 else 0) := rfl
theorem pkn_cong {set a b : Nat} : ∀ n, (∀ j, j < n → a.testBit j = b.testBit j) → pkn set a n = pkn set b n
  | 0, _ => rfl
  | n + 1, h => by rw [pkn_s, pkn_s, pkn_cong n (fun j hj => h j (by omega)), h n (by omega)]
theorem pkn_lt (set part : Nat) : ∀ n, pkn set part n < 2 ^ rkn set n
  | 0 => Nat.one_pos
  | n + 1 => by
    have := pkn_lt set part n
    rw [pkn_s, rkn_s]
    cases set.testBit n with
    | false => exact this
    | true =>
      simp only [if_true]
      rw [Nat.pow_succ]
      split <;> omega
theorem pkn_inj {set a b : Nat} : ∀ n, pkn set a n = pkn set b n → ∀ j, j < n → set.testBit j = true → a.testBit j = b.testBit j
  | 0, _ => fun j hj => absurd hj (by omega)
  | n + 1, h => by
    intro j hj hb
    rw [pkn_s, pkn_s] at h
    cases hs : set.testBit n with
    | false =>
      rw [hs] at h
      by_cases z : j = n
      · subst z
        rw [hs] at hb
        cases hb
      · exact pkn_inj n h j (by omega) hb
    | true =>
      rw [hs] at h
      simp only [if_true] at h
      by_cases z : j = n
      · subst z
        cases ha : a.testBit j <;> cases hb' : b.testBit j <;> rw [ha, hb'] at h <;> simp at h <;> first | rfl | omega
      · refine pkn_inj n ?_ j (by omega) hb
        cases ha : a.testBit n <;> cases hb' : b.testBit n <;> rw [ha, hb'] at h <;> simp at h <;> omega
theorem pkn_top (set part : Nat) : ∀ n, pkn set part n ≤ pkn set set n
  | 0 => Nat.le_refl _
  | n + 1 => by
    have := pkn_top set part n
    rw [pkn_s, pkn_s]
    cases set.testBit n with
    | false => exact this
    | true =>
      simp only [if_true]
      split <;> omega
theorem pkn_lex {set a b k : Nat} (hk : set.testBit k = true) (ha : a.testBit k = true) (hb : b.testBit k = false) (hj : ∀ j, j < k → a.testBit j = b.testBit j) : ∀ n, k < n → pkn set b n < pkn set a n
  | 0, h => absurd h (by omega)
  | n + 1, h => by
    rw [pkn_s, pkn_s]
    by_cases z : n = k
    · subst z
      rw [hk, ha, hb, pkn_cong n hj]
      simp
    · have := pkn_lex hk ha hb hj n (by omega)
      cases set.testBit n with
      | false => exact this
      | true =>
        simp only [if_true]
        split <;> split <;> omega
theorem cz_2 (x b : Nat) (hb : b < 2) : ∀ k, cz (fun i => (2 * x + b).testBit i) (k + 1) = b + cz (fun i => x.testBit i) k
  | 0 => by
    show 0 + (if (2 * x + b).testBit 0 then 1 else 0) = b + 0
    rw [Nat.testBit_zero, show (2 * x + b) % 2 = b by omega]
    by_cases z : b = 1
    · subst z
      rfl
    · rw [show b = 0 by omega]
      rfl
  | k + 1 => by
    rw [cz_s, cz_2 x b hb k, cz_s, Nat.testBit_succ, show (2 * x + b) / 2 = x by omega]
    omega
theorem pkn_pc {set part : Nat} (h : sub part set) : ∀ n, cz (fun i => (pkn set part n).testBit i) (rkn set n) = rkn part n
  | 0 => rfl
  | n + 1 => by
    have ih := pkn_pc h n
    rw [pkn_s, rkn_s, rkn_s]
    cases hs : set.testBit n with
    | false =>
      have : part.testBit n = false := by
        cases hp : part.testBit n with
        | false => rfl
        | true => rw [h n hp] at hs; cases hs
      rw [this]
      exact ih
    | true =>
      simp only [if_true]
      rw [cz_2 _ _ (by split <;> omega), ih]
      omega
theorem rkn_sub {set part : Nat} (h : sub part set) : ∀ n, rkn part n ≤ rkn set n
  | 0 => Nat.le_refl _
  | n + 1 => by
    have := rkn_sub h n
    rw [rkn_s, rkn_s]
    cases hp : part.testBit n with
    | false => simp only [Bool.false_eq_true, if_false]; omega
    | true => rw [h n hp]; simp only [if_true]; omega
/-- a part as a number: the first member lowest -/
def cmn (set x : Nat) : Nat → Nat
  | 0 => 0
  | w + 1 => cmn set x w + (if set.testBit w && x.testBit w then 2 ^ rkn set w else 0)
theorem cmn_s (set x w : Nat) : cmn set x (w + 1) = cmn set x w + (if set.testBit w && x.testBit w then 2 ^ rkn set w else 0) := rfl
theorem cmn_lt (set x : Nat) : ∀ n, cmn set x n < 2 ^ rkn set n
  | 0 => Nat.one_pos
  | n + 1 => by
    have := cmn_lt set x n
    rw [cmn_s, rkn_s]
    cases set.testBit n with
    | false => simpa using this
    | true =>
      simp only [if_true, Bool.true_and]
      rw [Nat.pow_succ]
      split <;> omega
theorem md2 (x n : Nat) : x % 2 ^ (n + 1) = x % 2 ^ n + (if x.testBit n then 2 ^ n else 0) := by
  rw [Nat.mod_pow_succ, Nat.testBit_eq_decide_div_mod_eq]
  rcases Nat.mod_two_eq_zero_or_one (x / 2 ^ n) with e | e
  · rw [e]
    rfl
  · rw [e, Nat.mul_one]
    rfl
theorem xor_0 {a b : Nat} (h : a ^^^ b = 0) : a = b := Nat.eq_of_testBit_eq (fun j => by
  have := congrArg (fun x => x.testBit j) h
  simp only [Nat.testBit_xor, Nat.zero_testBit] at this
  cases ha : a.testBit j <;> cases hb : b.testBit j <;> rw [ha, hb] at this <;> first | rfl | cases this)
theorem cmn_mono {set x y : Nat} (hy : sub y set) : ∀ n, x % 2 ^ n < y % 2 ^ n → cmn set x n < cmn set y n
  | 0, h => by
    rw [Nat.pow_zero, Nat.mod_one, Nat.mod_one] at h
    exact absurd h (by omega)
  | n + 1, h => by
    rw [md2, md2] at h
    rw [cmn_s, cmn_s]
    have hx2 : x % 2 ^ n < 2 ^ n := Nat.mod_lt _ (Nat.two_pow_pos n)
    have hy2 : y % 2 ^ n < 2 ^ n := Nat.mod_lt _ (Nat.two_pow_pos n)
    cases hxb : x.testBit n with
    | false =>
      cases hyb : y.testBit n with
      | false =>
        rw [hxb, hyb] at h
        have := cmn_mono hy n (by simpa using h)
        simpa using this
      | true =>
        have := cmn_lt set x n
        rw [hy n hyb]
        simp only [Bool.and_false, Bool.and_true, Bool.false_eq_true, if_false, if_true]
        omega
    | true =>
      cases hyb : y.testBit n with
      | false =>
        rw [hxb, hyb] at h
        simp at h
        omega
      | true =>
        rw [hxb, hyb] at h
        have := cmn_mono hy n (by simpa using h)
        omega
theorem sub_half {a s : Nat} (h : sub a s) : sub (a / 2) (s / 2) := by
  intro j hj
  rw [← Nat.testBit_succ] at hj ⊢
  exact h (j + 1) hj
theorem sub_odd {a s : Nat} (h : sub a s) : a % 2 ≤ s % 2 := by
  have := h 0
  rw [Nat.testBit_zero, Nat.testBit_zero, decide_eq_true_iff, decide_eq_true_iff] at this
  omega
theorem sub_next : ∀ (part q s : Nat), sub part s → sub q s → q < part → q ≤ (part - 1) &&& s := by
  intro part
  induction part using Nat.strongRecOn with
  | ind part ih =>
    intro q s hp hq hlt
    rw [and_split 1, Nat.pow_one]
    by_cases b : part % 2 = 1
    · rw [show (part - 1) / 2 = part / 2 by omega, show (part - 1) % 2 = 0 by omega, Nat.zero_and, sub_and (sub_half hp)]
      omega
    · have h1 := ih (part / 2) (by omega) (q / 2) (s / 2) (sub_half hp) (sub_half hq) (by omega)
      have h2 := sub_odd hq
      rw [show (part - 1) / 2 = part / 2 - 1 by omega, show (part - 1) % 2 = 1 by omega]
      have h3 : 1 &&& s % 2 = s % 2 := by
        rcases Nat.mod_two_eq_zero_or_one s with e | e <;> rw [e] <;> rfl
      rw [h3]
      omega
theorem low_bit : ∀ d : Nat, 0 < d → ∃ k, d.testBit k = true ∧ ∀ j, j < k → d.testBit j = false := by
  intro d
  induction d using Nat.strongRecOn with
  | ind d ih =>
    intro h0
    by_cases b : d % 2 = 1
    · exact ⟨0, by rw [Nat.testBit_zero, b]; rfl, fun j hj => absurd hj (by omega)⟩
    · obtain ⟨k, h1, h2⟩ := ih (d / 2) (by omega) (by omega)
      refine ⟨k + 1, by rw [Nat.testBit_succ]; exact h1, fun j hj => ?_⟩
      cases j with
      | zero => rw [Nat.testBit_zero]; exact decide_eq_false b
      | succ j => rw [Nat.testBit_succ]; exact h2 j (by omega)
theorem low_iso : ∀ (k d : Nat), d.testBit k = true → (∀ j, j < k → d.testBit j = false) → ∀ i, (d.testBit i && !(d - 1).testBit i) = decide (i = k)
  | 0, d, h1, _ => by
    rw [Nat.testBit_zero, decide_eq_true_iff] at h1
    intro i
    cases i with
    | zero =>
      rw [Nat.testBit_zero, Nat.testBit_zero, h1, show (d - 1) % 2 = 0 by omega]
      rfl
    | succ i =>
      rw [Nat.testBit_succ, Nat.testBit_succ, show (d - 1) / 2 = d / 2 by omega]
      cases (d / 2).testBit i <;> rfl
  | k + 1, d, h1, h2 => by
    have h0 := h2 0 (by omega)
    rw [Nat.testBit_zero, decide_eq_false_iff_not] at h0
    rw [Nat.testBit_succ] at h1
    have hd : 0 < d / 2 := by
      refine Nat.pos_of_ne_zero (fun z => ?_)
      rw [z, Nat.zero_testBit] at h1
      cases h1
    intro i
    cases i with
    | zero =>
      rw [Nat.testBit_zero, decide_eq_false h0]
      rfl
    | succ i =>
      rw [Nat.testBit_succ, Nat.testBit_succ, show (d - 1) / 2 = d / 2 - 1 by omega, low_iso k (d / 2) h1 (fun j hj => by rw [← Nat.testBit_succ]; exact h2 (j + 1) (by omega)) i]
      by_cases z : i = k
      · subst z
        simp
      · rw [decide_eq_false z, decide_eq_false (by omega)]
theorem low_and {d k : Nat} (hd : d < 2 ^ 31) (h1 : d.testBit k = true) (h2 : ∀ j, j < k → d.testBit j = false) : nI d &&& (-(nI d)) = nI (2 ^ k) := by
  have h0 : 0 < d := by
    refine Nat.pos_of_ne_zero (fun z => ?_)
    rw [z, Nat.zero_testBit] at h1
    cases h1
  have en : -(nI d) = nI (2 ^ 32 - ((d - 1) + 1)) := by
    have : nI (2 ^ 32 - ((d - 1) + 1)) + nI d = 0 := by
      rw [nI_add, show 2 ^ 32 - ((d - 1) + 1) + d = 2 ^ 32 by omega]
      rfl
    rw [← Int32.sub_eq_iff_eq_add.mpr this.symm, Int32.zero_sub]
  rw [en]
  refine b_ext (fun i hi => ?_)
  rw [b_and, bt_nI hi, bt_nI hi, bt_nI hi, Nat.testBit_two_pow_sub_succ (by omega), decide_eq_true hi, Bool.true_and, low_iso k d h1 h2 i, Nat.testBit_two_pow]
  by_cases z : i = k
  · subst z
    simp
  · rw [decide_eq_false z, decide_eq_false (fun c => z c.symm)]
theorem xor_nI (a b : Nat) : nI a ^^^ nI b = nI (a ^^^ b) := by
  refine b_ext (fun i hi => ?_)
  rw [b_xor, bt_nI hi, bt_nI hi, bt_nI hi, Nat.testBit_xor]
/-- the order of the parts -/
def AH (set n b q : Nat) : Prop := pcn b < pcn q ∨ (pcn b = pcn q ∧ pkn set q n ≤ pkn set b n)
theorem e_comesAhead {N set n a b : Nat} {Q : Int32 → Prop} (hN : 30 ≤ N) (ha : sub a set) (hb : sub b set) (hs : set < 2 ^ n) (hn : n ≤ 20) (h1 : ¬ AH set n b a → Q 1) (h0 : AH set n b a → Q 0) : fX6_comesAhead N (nI a) (nI b) Q := by
  have hp := p20 hn
  have la := sub_le ha
  have lb := sub_le hb
  have ca : pcn a ≤ 20 := fb_ct_le _ _
  have cb : pcn b ≤ 20 := fb_ct_le _ _
  unfold fX6_comesAhead
  refine e_countBits hN (by omega) (e_countBits hN (by omega) ⟨fun e => ?_, fun e => ⟨fun c => h0 ?_, fun c => h1 ?_⟩⟩)
  · have e := (nI_eq (by omega) (by omega)).mp e
    rw [xor_nI]
    refine nm_e ⟨fun c => h0 (Or.inr ⟨e.symm, ?_⟩), fun c => ?_⟩
    · have hx : a ^^^ b < 2 ^ 20 := Nat.xor_lt_two_pow (by omega) (by omega)
      have : a ^^^ b = 0 := (nI_eq (b := 0) (by omega) (by omega)).mp c
      rw [xor_0 this]
      exact Nat.le_refl _
    · have hx : a ^^^ b < 2 ^ 20 := Nat.xor_lt_two_pow (by omega) (by omega)
      have hx0 : 0 < a ^^^ b := Nat.pos_of_ne_zero (fun z => c (by rw [z]; rfl))
      obtain ⟨k, k1, k2⟩ := low_bit _ hx0
      have hk : k < 20 := by
        refine Classical.byContradiction (fun z => ?_)
        rw [Nat.testBit_lt_two_pow (Nat.lt_of_lt_of_le hx (Nat.pow_le_pow_right (by omega) (by omega)))] at k1
        cases k1
      have hag : ∀ j, j < k → a.testBit j = b.testBit j := by
        intro j hj
        have := k2 j hj
        rw [Nat.testBit_xor] at this
        cases ha' : a.testBit j <;> cases hb' : b.testBit j <;> rw [ha', hb'] at this <;> first | rfl | cases this
      rw [Nat.testBit_xor] at k1
      have hkn : ∀ x, sub x set → x.testBit k = true → k < n := by
        intro x hx hxk
        refine Classical.byContradiction (fun z => ?_)
        have := hx k hxk
        rw [Nat.testBit_lt_two_pow (Nat.lt_of_lt_of_le hs (Nat.pow_le_pow_right (by omega) (by omega)))] at this
        cases this
      rw [low_and (by omega) (by rw [Nat.testBit_xor]; exact k1) k2, fa_bit (by omega)]
      cases ha' : a.testBit k with
      | true =>
        have hb' : b.testBit k = false := by
          rw [ha'] at k1
          cases hb' : b.testBit k with
          | false => rfl
          | true => rw [hb'] at k1; cases k1
        refine ⟨fun c => (by cases c), fun _ => h1 ?_⟩
        have := pkn_lex (ha k ha') ha' hb' hag n (hkn a ha ha')
        unfold AH
        omega
      | false =>
        have hb' : b.testBit k = true := by
          rw [ha'] at k1
          cases hb' : b.testBit k with
          | true => rfl
          | false => rw [hb'] at k1; cases k1
        refine ⟨fun _ => h0 ?_, fun c => absurd rfl c⟩
        have := pkn_lex (hb k hb') hb' ha' (fun j hj => (hag j hj).symm) n (hkn b hb hb')
        unfold AH
        omega
  · have e : ¬ pcn a = pcn b := fun z => e (by rw [z])
    have : ¬ pcn a < pcn b := fun z => nI_ge z (by omega) c
    unfold AH
    omega
  · have e : ¬ pcn a = pcn b := fun z => e (by rw [z])
    have : ¬ pcn b ≤ pcn a := fun z => c (nI_le z (by omega))
    unfold AH
    omega
