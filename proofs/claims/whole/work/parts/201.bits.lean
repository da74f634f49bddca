/-! bits of ints: single bits, sets of twenty, counts -/
theorem b_1 : ∀ i, i < 32 → bt 1 i = decide (i = 0) := by decide
theorem and1 (y : Int32) : y &&& 1 = if bt y 0 then 1 else 0 := by
  apply b_ext
  intro i hi
  rw [b_and, b_1 i hi]
  by_cases h : i = 0
  · subst h
    cases hb : bt y 0 <;> simp [b_0, b_1]
  · cases hb : bt y 0
    · simp [b_0, h]
    · simp [b_1 i hi, h]
theorem bt_nI {a i : Nat} (hi : i < 32) : bt (nI a) i = a.testBit i := by
  show (BitVec.ofNat 32 a).getLsbD i = _
  rw [BitVec.getLsbD_ofNat]
  simp [hi]
theorem ushr_bit {v : Int32} {p : Nat} (hp : p < 32) : ((v.toUInt32 >>> ((nI p).toUInt32 &&& Int32.toUInt32 31)).toInt32 &&& 1) = if bt v p then 1 else 0 := by
  rw [and1, b_ushr p hp, Nat.add_zero]
theorem sshr_bit {v : Int32} {p : Nat} (hp : p < 32) : ((v >>> (nI p &&& 31)) &&& 1) = if bt v p then 1 else 0 := by
  rw [and1, b_sshr p hp v (by omega), Nat.add_zero, if_pos hp]
theorem one_ne_0 : ¬ (0 : Int32) = 1 := by decide
theorem e_isIn {N : Nat} {v : Int32} {p : Nat} {Q : Int32 → Prop} (hp : p < 32) (h : Q (if bt v p then 1 else 0)) : fX5_isIn N v (nI p) Q := by
  unfold fX5_isIn
  rw [ushr_bit hp]
  cases hb : bt v p
  · rw [hb] at h
    exact ⟨fun _ => h, fun c => absurd c (by decide)⟩
  · rw [hb] at h
    exact ⟨fun c => absurd rfl c, fun _ => h⟩
theorem e_bit {N : Nat} {b : Bool} {Q : Int32 → Prop} (h : Q (if b then 1 else 0)) : fX5_bit N (if b then 1 else 0) Q := by
  unfold fX5_bit
  cases b
  · exact ⟨fun _ => h, fun c => absurd rfl c⟩
  · exact ⟨fun c => absurd c (by decide), fun _ => h⟩
theorem b_m1x (x : Int32) {i : Nat} (hi : i < 32) : bt (x ^^^ (-1)) i = !bt x i := by rw [b_xor, b_m1 i hi]; cases bt x i <;> rfl
theorem set1 (x m : Int32) : (x &&& (m ^^^ (-1))) ||| m = x ||| m := by
  apply b_ext
  intro i hi
  rw [b_or, b_and, b_m1x m hi, b_or]
  cases bt x i <;> cases bt m i <;> rfl
theorem or_0 (x : Int32) : x ||| 0 = x := by
  apply b_ext
  intro i hi
  rw [b_or, b_0, Bool.or_false]
theorem shl0 (p : Int32) : (0 : Int32) <<< p = 0 := by
  apply Int32.toBitVec_inj.mp
  rw [Int32.toBitVec_shiftLeft]
  simp
/-- a bit put on or off, as both sides do it -/
theorem put_bit {x m : Int32} {v : Int32} {p : Int32} (hv : v = 0 ∨ v = 1) (hm : m = (1 : Int32) <<< p) : (x &&& (m ^^^ (-1))) ||| (v <<< p) = if v = 1 then x ||| m else x &&& (m ^^^ (-1)) := by
  rcases hv with rfl | rfl
  · rw [shl0, or_0, if_neg one_ne_0]
  · rw [if_pos rfl, ← hm, set1]
theorem shl_1 {p : Nat} (hp : p < 31) : (1 : Int32) <<< (nI p &&& 31) = nI (2 ^ p) := by
  have := pk_shlN (n := 1) (nI p &&& 31) p (s_l p (by omega)) (by
    have : 2 ^ p ≤ 2 ^ 30 := Nat.pow_le_pow_right (by omega) (by omega)
    omega)
  rw [Nat.one_mul] at this
  exact this
theorem and_some (a : Nat) (y : Int32) : ∃ c, c ≤ a ∧ nI a &&& y = nI c := by
  obtain ⟨b, -, e⟩ := wb_of32 y
  exact ⟨a &&& b, Nat.and_le_left, by rw [e, fa_and]⟩
/-! counting bits -/
def pcn (a : Nat) : Nat := fb_ct (fun i => a.testBit i) 20
theorem and_split (k x y : Nat) : x &&& y = 2 ^ k * ((x / 2 ^ k) &&& (y / 2 ^ k)) + ((x % 2 ^ k) &&& (y % 2 ^ k)) := by
  rw [← Nat.and_div_two_pow, ← Nat.and_mod_two_pow]
  exact (Nat.div_add_mod _ _).symm
theorem and_at {k x y x1 x0 y1 y0 : Nat} (hx : x = 2 ^ k * x1 + x0) (hy : y = 2 ^ k * y1 + y0) (h0 : x0 < 2 ^ k) (h1 : y0 < 2 ^ k) : x &&& y = 2 ^ k * (x1 &&& y1) + (x0 &&& y0) := by
  rw [and_split k x y]
  have a1 : x / 2 ^ k = x1 := by rw [hx, Nat.mul_add_div (Nat.two_pow_pos k), Nat.div_eq_of_lt h0, Nat.add_zero]
  have a2 : y / 2 ^ k = y1 := by rw [hy, Nat.mul_add_div (Nat.two_pow_pos k), Nat.div_eq_of_lt h1, Nat.add_zero]
  have a3 : x % 2 ^ k = x0 := by rw [hx, Nat.mul_add_mod, Nat.mod_eq_of_lt h0]
  have a4 : y % 2 ^ k = y0 := by rw [hy, Nat.mul_add_mod, Nat.mod_eq_of_lt h1]
  rw [a1, a2, a3, a4]
theorem d5 : ∀ e, e < 2 → ∀ c, c < 16 → (8 * e + c / 2) &&& 5 = (c / 2) &&& 5 := by decide
theorem d3 : ∀ e, e < 4 → ∀ z, z < 16 → (4 * e + z / 4) &&& 3 = (z / 4) &&& 3 := by decide
def X1 (a m : Nat) : Nat := a - ((a / 2) &&& m)
def X2 (x m : Nat) : Nat := (x &&& m) + ((x / 4) &&& m)
theorem X1_at (b c m : Nat) (hc : c < 16) : X1 (16 * b + c) (16 * m + 5) = 16 * X1 b m + X1 c 5 := by
  unfold X1
  rw [and_at (k := 4) (x1 := b / 2) (x0 := 8 * (b % 2) + c / 2) (y1 := m) (y0 := 5) (by omega) (by omega) (by omega) (by omega), d5 (b % 2) (by omega) c hc]
  have h1 : (b / 2) &&& m ≤ b / 2 := Nat.and_le_left
  have h2 : (c / 2) &&& 5 ≤ c / 2 := Nat.and_le_left
  omega
theorem X2_at (y z m : Nat) (hz : z < 16) : X2 (16 * y + z) (16 * m + 3) = 16 * X2 y m + X2 z 3 := by
  unfold X2
  rw [and_at (k := 4) (x1 := y) (x0 := z) (y1 := m) (y0 := 3) (by omega) (by omega) hz (by omega)]
  rw [and_at (k := 4) (x := (16 * y + z) / 4) (x1 := y / 4) (x0 := 4 * (y % 4) + z / 4) (y1 := m) (y0 := 3) (by omega) (by omega) (by omega) (by omega), d3 (y % 4) (by omega) z hz]
  omega
theorem nib : ∀ c, c < 16 → X1 c 5 < 16 ∧ X2 (X1 c 5) 3 = fb_ct (fun i => c.testBit i) 4 ∧ fb_ct (fun i => c.testBit i) 4 ≤ 4 := by decide
theorem G_at (b c m m' : Nat) (hc : c < 16) : X2 (X1 (16 * b + c) (16 * m + 5)) (16 * m' + 3) = 16 * X2 (X1 b m) m' + fb_ct (fun i => c.testBit i) 4 := by
  rw [X1_at b c m hc, X2_at _ _ _ (nib c hc).1, (nib c hc).2.1]
theorem X_0 (m m' : Nat) : X2 (X1 0 m) m' = 0 := by simp [X1, X2]
theorem ct_at (b c n : Nat) (hc : c < 16) : fb_ct (fun i => (16 * b + c).testBit i) (4 + n) = fb_ct (fun i => c.testBit i) 4 + fb_ct (fun i => b.testBit i) n := by
  rw [fb_ct_split]
  have e : 16 * b + c = 2 ^ 4 * b + c := by omega
  congr 1
  · apply fb_ct_cong
    intro k hk
    rw [e, Nat.testBit_two_pow_mul_add _ (by omega), if_pos hk]
  · apply fb_ct_cong
    intro k hk
    rw [e, Nat.testBit_two_pow_mul_add _ (by omega), if_neg (by omega)]
    congr 1
    omega
theorem digits {a : Nat} (ha : a < 2 ^ 20) : ∃ c0 c1 c2 c3 c4 : Nat, c0 < 16 ∧ c1 < 16 ∧ c2 < 16 ∧ c3 < 16 ∧ c4 < 16 ∧ a = 16 * (16 * (16 * (16 * (16 * 0 + c4) + c3) + c2) + c1) + c0 :=
  ⟨a % 16, a / 16 % 16, a / 256 % 16, a / 4096 % 16, a / 65536 % 16, by omega, by omega, by omega, by omega, by omega, by omega⟩
theorem swar {a : Nat} (ha : a < 2 ^ 20) : ∃ p0 p1 p2 p3 p4 : Nat, p0 ≤ 4 ∧ p1 ≤ 4 ∧ p2 ≤ 4 ∧ p3 ≤ 4 ∧ p4 ≤ 4 ∧ X2 (X1 a 1431655765) 858993459 = p0 + 16 * (p1 + 16 * (p2 + 16 * (p3 + 16 * p4))) ∧ pcn a = p0 + p1 + p2 + p3 + p4 := by
  obtain ⟨c0, c1, c2, c3, c4, h0, h1, h2, h3, h4, e⟩ := digits ha
  refine ⟨_, _, _, _, _, (nib c0 h0).2.2, (nib c1 h1).2.2, (nib c2 h2).2.2, (nib c3 h3).2.2, (nib c4 h4).2.2, ?_, ?_⟩
  · rw [e, show 1431655765 = 16 * (16 * (16 * (16 * (16 * 1365 + 5) + 5) + 5) + 5) + 5 by omega, show 858993459 = 16 * (16 * (16 * (16 * (16 * 819 + 3) + 3) + 3) + 3) + 3 by omega]
    rw [G_at _ _ _ _ h0, G_at _ _ _ _ h1, G_at _ _ _ _ h2, G_at _ _ _ _ h3, G_at _ _ _ _ h4, X_0]
    omega
  · unfold pcn
    rw [e, show 20 = 4 + (4 + (4 + (4 + (4 + 0)))) by omega, ct_at _ _ _ h0, ct_at _ _ _ h1, ct_at _ _ _ h2, ct_at _ _ _ h3, ct_at _ _ _ h4]
    show _ + (_ + (_ + (_ + (_ + 0)))) = _
    omega
theorem ush_c {a k : Nat} (ha : a < 2 ^ 32) (hk : k < 32) : ((nI a).toUInt32 >>> ((nI k).toUInt32 &&& Int32.toUInt32 31)).toInt32 = nI (a / 2 ^ k) := pk_ushrN ha _ k (s_u k hk)
theorem and_15 (x : Nat) : x &&& 252645135 = 2 ^ 8 * (2 ^ 8 * (2 ^ 8 * (x / 2 ^ 24 &&& 15) + x / 2 ^ 16 % 16) + x / 2 ^ 8 % 16) + x % 16 := by
  have h15 : ∀ y : Nat, y % 2 ^ 8 &&& 15 = y % 16 := fun y => by
    have := Nat.and_two_pow_sub_one_eq_mod (y % 2 ^ 8) 4
    rw [show 2 ^ 4 - 1 = 15 by omega] at this
    rw [this]
    omega
  rw [and_at (k := 8) (x := x) (x1 := x / 2 ^ 8) (x0 := x % 2 ^ 8) (y1 := 986895) (y0 := 15) (by omega) (by omega) (by omega) (by omega), and_at (k := 8) (x := x / 2 ^ 8) (x1 := x / 2 ^ 16) (x0 := x / 2 ^ 8 % 2 ^ 8) (y1 := 3855) (y0 := 15) (by omega) (by omega) (by omega) (by omega), and_at (k := 8) (x := x / 2 ^ 16) (x1 := x / 2 ^ 24) (x0 := x / 2 ^ 16 % 2 ^ 8) (y1 := 15) (y0 := 15) (by omega) (by omega) (by omega) (by omega), h15, h15, h15]
theorem sw4 {p0 p1 p2 p3 p4 x2 : Nat} (b0 : p0 ≤ 4) (b1 : p1 ≤ 4) (b2 : p2 ≤ 4) (b3 : p3 ≤ 4) (b4 : p4 ≤ 4) (h : p0 + 16 * (p1 + 16 * (p2 + 16 * (p3 + 16 * p4))) = x2) : (x2 + x2 / 2 ^ 4) &&& 252645135 = (p0 + p1) + 256 * ((p2 + p3) + 256 * p4) := by
  have d1 : x2 / 2 ^ 4 = p1 + 16 * (p2 + 16 * (p3 + 16 * p4)) := by omega
  have d2 : x2 + x2 / 2 ^ 4 = (p0 + p1) + 16 * ((p1 + p2) + 16 * ((p2 + p3) + 16 * ((p3 + p4) + 16 * p4))) := by omega
  rw [d2, and_15]
  generalize hy : (p0 + p1) + 16 * ((p1 + p2) + 16 * ((p2 + p3) + 16 * ((p3 + p4) + 16 * p4))) = y
  clear d1 d2 h
  have e0 : y % 16 = p0 + p1 := by omega
  obtain ⟨u, hu⟩ : ∃ u, (p2 + p3) + 16 * ((p3 + p4) + 16 * p4) = u := ⟨_, rfl⟩
  have f1 : y / 2 ^ 8 = u := by omega
  have e1 : y / 2 ^ 8 % 16 = p2 + p3 := by rw [f1]; clear f1 hy e0; omega
  have f2 : y / 2 ^ 16 = p4 := by
    have : y / 2 ^ 16 = (y / 2 ^ 8) / 2 ^ 8 := by rw [Nat.div_div_eq_div_mul]
    rw [this, f1]
    clear this f1 hy e0 e1
    omega
  have e2 : y / 2 ^ 16 % 16 = p4 := by rw [f2]; clear f2 f1 hy e0 e1; omega
  have e3 : y / 2 ^ 24 = 0 := by
    have : y / 2 ^ 24 = (y / 2 ^ 16) / 2 ^ 8 := by rw [Nat.div_div_eq_div_mul]
    rw [this, f2]
    clear this f2 f1 hy e0 e1 e2
    omega
  rw [e0, e1, e2, e3, Nat.zero_and]
  omega
theorem sw5 {p q r x3 : Nat} (b0 : p ≤ 8) (b1 : q ≤ 8) (b2 : r ≤ 4) (h : p + 256 * (q + 256 * r) = x3) : ((x3 + x3 / 2 ^ 8) + (x3 + x3 / 2 ^ 8) / 2 ^ 16) % 2 ^ 6 = p + q + r := by
  have d1 : x3 / 2 ^ 8 = q + 256 * r := by omega
  have d2 : x3 + x3 / 2 ^ 8 = (p + q) + 256 * ((q + r) + 256 * r) := by omega
  rw [d2]
  have d3 : ((p + q) + 256 * ((q + r) + 256 * r)) / 2 ^ 16 = r := by omega
  rw [d3]
  omega
/-- Integer.bitCount of a set of twenty -/
theorem e_bitCount {N : Nat} {a : Nat} {Q : Int32 → Prop} (ha : a < 2 ^ 20) (h : Q (nI (pcn a))) : fJ6_bitCount_0f7a4 N (nI a) Q := by
  unfold fJ6_bitCount_0f7a4
  simp only [forall_eq]
  obtain ⟨p0, p1, p2, p3, p4, b0, b1, b2, b3, b4, e2, ec⟩ := swar ha
  have l1 : ((nI a).toUInt32 >>> ((1 : Int32).toUInt32 &&& Int32.toUInt32 31)).toInt32 = nI (a / 2 ^ 1) := ush_c (k := 1) (by omega) (by omega)
  have l2 : nI (a / 2 ^ 1) &&& (1431655765 : Int32) = nI ((a / 2) &&& 1431655765) := fa_and _ _
  have h1 : (a / 2) &&& 1431655765 ≤ a := Nat.le_trans Nat.and_le_left (by omega)
  have l3 : nI a - nI ((a / 2) &&& 1431655765) = nI (X1 a 1431655765) := pk_sub h1
  have hx1 : X1 a 1431655765 ≤ a := Nat.sub_le _ _
  rw [l1, l2, l3]
  generalize X1 a 1431655765 = x1 at *
  have l4 : ((nI x1).toUInt32 >>> ((2 : Int32).toUInt32 &&& Int32.toUInt32 31)).toInt32 = nI (x1 / 2 ^ 2) := ush_c (k := 2) (by omega) (by omega)
  have l5 : nI x1 &&& (858993459 : Int32) = nI (x1 &&& 858993459) := fa_and _ _
  have l6 : nI (x1 / 2 ^ 2) &&& (858993459 : Int32) = nI ((x1 / 4) &&& 858993459) := fa_and _ _
  rw [l4, l5, l6, nI_add]
  have e3 : (x1 &&& 858993459) + (x1 / 4 &&& 858993459) = X2 x1 858993459 := rfl
  rw [e3, e2]
  generalize hx2 : p0 + 16 * (p1 + 16 * (p2 + 16 * (p3 + 16 * p4))) = x2
  have hb2 : x2 < 2 ^ 20 := by omega
  have l7 : ((nI x2).toUInt32 >>> ((4 : Int32).toUInt32 &&& Int32.toUInt32 31)).toInt32 = nI (x2 / 2 ^ 4) := ush_c (k := 4) (by omega) (by omega)
  have l8 : nI (x2 + x2 / 2 ^ 4) &&& (252645135 : Int32) = nI ((x2 + x2 / 2 ^ 4) &&& 252645135) := fa_and _ _
  rw [l7, nI_add, l8]
  rw [sw4 b0 b1 b2 b3 b4 hx2]
  generalize hx3 : (p0 + p1) + 256 * ((p2 + p3) + 256 * p4) = x3
  have l9 : ((nI x3).toUInt32 >>> ((8 : Int32).toUInt32 &&& Int32.toUInt32 31)).toInt32 = nI (x3 / 2 ^ 8) := ush_c (k := 8) (by omega) (by omega)
  have e5 : ((x3 + x3 / 2 ^ 8) + (x3 + x3 / 2 ^ 8) / 2 ^ 16) % 2 ^ 6 = pcn a := by rw [ec, sw5 (by omega) (by omega) b4 hx3]; omega
  have hb3 : x3 + x3 / 2 ^ 8 < 2 ^ 30 := by omega
  rw [l9, nI_add]
  generalize x3 + x3 / 2 ^ 8 = x4 at e5 hb3 ⊢
  have l10 : ((nI x4).toUInt32 >>> ((16 : Int32).toUInt32 &&& Int32.toUInt32 31)).toInt32 = nI (x4 / 2 ^ 16) := ush_c (k := 16) (by omega) (by omega)
  have l11 : nI (x4 + x4 / 2 ^ 16) &&& (63 : Int32) = nI ((x4 + x4 / 2 ^ 16) % 2 ^ 6) := fa_mask _ 6
  rw [l10, nI_add, l11]
  rw [e5]
  exact h
/-- the reference's count -/
theorem e_countBits {N : Nat} {a : Nat} {Q : Int32 → Prop} (hN : 30 ≤ N) (ha : a < 2 ^ 31) (h : Q (nI (pcn a))) : fX6_countBits N (nI a) Q := by
  unfold fX6_countBits
  have key : ∀ n i (s : Nat), i ≤ 20 → 20 - i < n → s = fb_ct (fun i => a.testBit i) i → fX6_countBits_4 N (nI a) (fun x => Q x) Q n (nI s) (nI i) := by
    refine loop_i (fun n i s => fX6_countBits_4 N (nI a) (fun x => Q x) Q n (nI s) (nI i)) (fun i s => s = fb_ct (fun i => a.testBit i) i) 20 ?_ ?_
    · intro n s hs
      show fX6_countBits_4b _ _ _ _ _ _ _
      unfold fX6_countBits_4b
      refine ⟨fun _ => ?_, fun c => absurd (show nI 20 ≤ nI 20 from nI_le (by omega) (by omega)) c⟩
      rw [hs]
      exact h
    · intro n i s hi hs ih
      show fX6_countBits_4b _ _ _ _ _ _ _
      unfold fX6_countBits_4b
      refine ⟨fun c => absurd (show nI 20 ≤ nI i from c) (nI_ge hi (by omega)), fun _ => ?_⟩
      intro x2 e2 x3 e3
      rw [sshr_bit (by omega), bt_nI (by omega)] at e2
      have e2' : x2 = nI (s + if a.testBit i then 1 else 0) := by
        rw [e2]
        cases a.testBit i
        · exact nI_add s 0
        · exact nI_add s 1
      rw [e2', e3, nI_1]
      exact ih _ (by rw [fb_ct_succ, hs])
  exact key N 0 0 (by omega) (by omega) rfl
