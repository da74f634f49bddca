/-! a law: its masks, and the reference's step -/
theorem l_ext {x y : Int64} (h : ∀ i, i < 64 → tb x i = tb y i) : x = y := Int64.toBitVec_inj.mp (BitVec.eq_of_getLsbD_eq (fun i hi => h i hi))
theorem tb_and (x y : Int64) (i : Nat) : tb (x &&& y) i = (tb x i && tb y i) := by unfold tb; rw [Int64.toBitVec_and, BitVec.getLsbD_and]
theorem tb_or (x y : Int64) (i : Nat) : tb (x ||| y) i = (tb x i || tb y i) := by unfold tb; rw [Int64.toBitVec_or, BitVec.getLsbD_or]
theorem tb_xor (x y : Int64) (i : Nat) : tb (x ^^^ y) i = (tb x i ^^ tb y i) := by unfold tb; rw [Int64.toBitVec_xor, BitVec.getLsbD_xor]
theorem tb_0 (i : Nat) : tb 0 i = false := by
  show (0#64).getLsbD i = false
  simp
theorem tb_m1 {i : Nat} (hi : i < 64) : tb (-1) i = true := by
  show (-1 : Int64).toBitVec.getLsbD i = true
  have : (-1 : Int64).toBitVec = BitVec.allOnes 64 := by decide
  rw [this, BitVec.getLsbD_allOnes]
  simp [hi]
theorem tb_not (x : Int64) {i : Nat} (hi : i < 64) : tb (x ^^^ (-1)) i = !tb x i := by rw [tb_xor, tb_m1 hi]; cases tb x i <;> rfl
theorem tb_big {x : Int64} {i : Nat} (h : 64 ≤ i) : tb x i = false := BitVec.getLsbD_of_ge _ _ h
theorem tb_1 : ∀ i, i < 64 → tb 1 i = decide (i = 0) := by decide
theorem land1 (y : Int64) : y &&& 1 = if tb y 0 then 1 else 0 := by
  apply l_ext
  intro i hi
  rw [tb_and, tb_1 i hi]
  by_cases h : i = 0
  · subst h
    cases hb : tb y 0 <;> simp [tb_0, tb_1]
  · cases hb : tb y 0
    · simp [tb_0, h]
    · simp [tb_1 i hi, h]
theorem lushr_tb {E : Int64} {t i : Nat} (ht : t < 64) : tb ((E.toUInt64 >>> ((nI t).toInt64.toUInt64 &&& Int64.toUInt64 63)).toInt64) i = tb E (t + i) := by
  rw [wb_cu t ht]
  unfold tb
  have e : ((E.toUInt64 >>> UInt64.ofNat t).toInt64).toBitVec = E.toBitVec >>> t := by
    show (E.toUInt64 >>> UInt64.ofNat t).toBitVec = _
    rw [UInt64.toBitVec_shiftRight]
    have h2 : (UInt64.ofNat t).toBitVec % 64 = BitVec.ofNat 64 t := by
      apply BitVec.eq_of_toNat_eq
      rw [BitVec.toNat_umod]
      show (UInt64.ofNat t).toNat % 64 = _
      rw [u_tn (by omega), BitVec.toNat_ofNat]
      omega
    rw [h2]
    apply BitVec.eq_of_toNat_eq
    simp [BitVec.toNat_ushiftRight, Nat.mod_eq_of_lt (show t < 18446744073709551616 by omega)]
  rw [e, BitVec.getLsbD_ushiftRight]
theorem lsshr_tb {E : Int64} {t : Nat} (ht : t < 64) : tb (E >>> ((nI t).toInt64 &&& 63)) 0 = tb E t := by
  rw [wb_c t ht]
  unfold tb
  rw [Int64.toBitVec_shiftRight, wb_tb, wb_sm t ht]
  have e : (BitVec.ofNat 64 t).toNat = t := by rw [BitVec.toNat_ofNat]; omega
  rw [BitVec.sshiftRight', e, BitVec.getLsbD_sshiftRight]
  simp [ht]
theorem one_ne_0L : ¬ (0 : Int64) = 1 := by decide
theorem e_has {N : Nat} {E : Int64} {t : Nat} {Q : Int32 → Prop} (ht : t < 64) (h : Q (if tb E t then 1 else 0)) : fX1_has N E (nI t) Q := by
  unfold fX1_has
  rw [land1, lushr_tb ht, Nat.add_zero]
  cases hb : tb E t
  · rw [hb] at h
    exact ⟨fun _ => h, fun c => absurd c (by decide)⟩
  · rw [hb] at h
    exact ⟨fun c => absurd rfl c, fun _ => h⟩
def brk (a : Nat) (E F : Int64) (s m : Nat) : Int64 := if a = 0 then E else if a = 2 then (if s = 0 then 0 else F ^^^ (-1)) else if s = 0 then (if m = 0 then E &&& (F ^^^ (-1)) else 0) else if s = 1 then F ^^^ (-1) else 0
def trn (a : Nat) (E F : Int64) (s : Nat) : Int64 := if a = 0 then 0 else if a = 2 then E else if s = 0 then E &&& (F ^^^ (-1)) else F
def trd (a s m : Nat) : Nat := if a = 0 then s else if a = 2 then (if s - 1 < m then m else s - 1) else if s = 0 then m else 0
def rno (a s : Nat) : Nat := if a = 0 then s else s - 1
theorem tb_compl (x : Int64) {i : Nat} (hi : i < 64) : tb (~~~x) i = !tb x i := by
  unfold tb
  rw [Int64.toBitVec_not, BitVec.getLsbD_not]
  simp [hi]
theorem mk_ok {a s m t : Nat} {E F : Int64} (ha : a ≤ 2) (ht : t < 64) : nx (a, m, tb E, tb F) s t = if tb (brk a E F s m) t then none else some (if tb (trn a E F s) t then trd a s m else rno a s) := by
  rcases (show a = 0 ∨ a = 1 ∨ a = 2 by omega) with rfl | rfl | rfl
  · cases hE : tb E t <;> simp [nx, brk, trn, trd, rno, hE, tb_0]
  · by_cases h0 : s = 0
    · subst h0
      by_cases hm : m = 0
      · subst hm
        cases hE : tb E t <;> cases hF : tb F t <;> simp [nx, brk, trn, trd, rno, hE, hF, tb_and, tb_compl F ht, tb_0]
      · cases hE : tb E t <;> cases hF : tb F t <;> simp [nx, brk, trn, trd, rno, hE, hF, hm, tb_and, tb_compl F ht, tb_0]
    · by_cases h1 : s = 1
      · subst h1
        cases hF : tb F t <;> simp [nx, brk, trn, trd, rno, hF, tb_compl F ht, tb_0]
      · have h2 : 0 < s := by omega
        cases hF : tb F t <;> simp [nx, brk, trn, trd, rno, hF, h0, h1, h2, tb_0]
  · by_cases h0 : s = 0
    · subst h0
      cases hE : tb E t <;> by_cases hm : 0 < m <;> simp [nx, brk, trn, trd, rno, hE, hm, tb_0]
    · have h2 : 0 < s := by omega
      cases hE : tb E t <;> cases hF : tb F t <;> by_cases hm : s - 1 < m <;> simp [nx, brk, trn, trd, rno, hE, hF, h0, h2, hm, tb_compl F ht, tb_0]
theorem nI_ne {a b : Nat} (ha : a < 2 ^ 31) (hb : b < 2 ^ 31) (h : a ≠ b) : ¬ nI a = nI b := fun e => h ((nI_eq ha hb).mp e)
theorem e_breaking {N a s m : Nat} {L : RS} {Q : Int64 → Prop} (ha : a ≤ 2) (hs : s ≤ 3) (hm : m ≤ 3) (e : L.1 0 = nI a) (h : Q (brk a (L.2.2.1 2) (L.2.2.1 3) s m)) : fX1_breaking N L (nI s) (nI m) Q := by
  unfold fX1_breaking
  rw [e]
  have ne := fun (x y : Nat) (hx : x ≤ 3) (hy : y ≤ 3) => nI_ne (a := x) (b := y) (by omega) (by omega)
  rcases (show a = 0 ∨ a = 1 ∨ a = 2 by omega) with rfl | rfl | rfl
  · exact ⟨fun c => absurd rfl c, fun _ => h⟩
  · refine ⟨fun _ => ⟨fun _ => ⟨fun c => ⟨fun c1 => ?_, fun c1 => ?_⟩, fun c => ⟨fun c1 => ?_, fun c1 => ?_⟩⟩, fun c => absurd c (by decide)⟩, fun c => absurd c (by decide)⟩
    · have h0 : s ≠ 0 := fun q => c (by rw [q]; rfl)
      have h1 : s ≠ 1 := fun q => c1 (by rw [q]; rfl)
      simpa [brk, h0, h1] using h
    · have h1 : s = 1 := (nI_eq (by omega) (by omega)).mp (show nI s = nI 1 from c1)
      simpa [brk, h1] using h
    · have h0 : s = 0 := (nI_eq (by omega) (by omega)).mp (show nI s = nI 0 from c)
      have h1 : m ≠ 0 := fun q => c1 (by rw [q]; rfl)
      simpa [brk, h0, h1] using h
    · have h0 : s = 0 := (nI_eq (by omega) (by omega)).mp (show nI s = nI 0 from c)
      have h1 : m = 0 := (nI_eq (by omega) (by omega)).mp (show nI m = nI 0 from c1)
      simpa [brk, h0, h1] using h
  · refine ⟨fun _ => ⟨fun c => absurd rfl c, fun _ => ⟨fun c => ?_, fun c => ?_⟩⟩, fun c => absurd c (by decide)⟩
    · have h0 : s = 0 := by
        have := (nI_leI (by omega) (by omega)).mp (show nI s ≤ nI 0 from c)
        omega
      simpa [brk, h0] using h
    · have h0 : s ≠ 0 := fun q => c (by rw [q]; exact nI_le (a := 0) (b := 0) (by omega) (by omega))
      simpa [brk, h0] using h
theorem e_turning {N a s : Nat} {L : RS} {Q : Int64 → Prop} (ha : a ≤ 2) (hs : s ≤ 3) (e : L.1 0 = nI a) (h : Q (trn a (L.2.2.1 2) (L.2.2.1 3) s)) : fX1_turning N L (nI s) Q := by
  unfold fX1_turning
  rw [e]
  rcases (show a = 0 ∨ a = 1 ∨ a = 2 by omega) with rfl | rfl | rfl
  · exact ⟨fun c => absurd rfl c, fun _ => h⟩
  · refine ⟨fun _ => ⟨fun _ => ⟨fun c => ?_, fun c => ?_⟩, fun c => absurd c (by decide)⟩, fun c => absurd c (by decide)⟩
    · have h0 : s ≠ 0 := fun q => c (by rw [q]; rfl)
      simpa [trn, h0] using h
    · have h0 : s = 0 := (nI_eq (by omega) (by omega)).mp (show nI s = nI 0 from c)
      simpa [trn, h0] using h
  · exact ⟨fun _ => ⟨fun c => absurd rfl c, fun _ => h⟩, fun c => absurd c (by decide)⟩
theorem dec1 {s : Nat} (hs : s ≤ 3) (m : Nat) (hm : m ≤ 3) : (if nI s - 1 < nI m then nI m else nI s - 1) = nI (if s - 1 < m then m else s - 1) ∧ (if nI s - 1 < nI m then nI m else nI s - 1) = nI (if s - 1 < m then m else s - 1) := by
  have key : ∀ s, s ≤ 3 → ∀ m, m ≤ 3 → (if nI s - 1 < nI m then nI m else nI s - 1) = nI (if s - 1 < m then m else s - 1) := by
    intro s hs m hm
    rcases (show s = 0 ∨ s = 1 ∨ s = 2 ∨ s = 3 by omega) with rfl | rfl | rfl | rfl <;> rcases (show m = 0 ∨ m = 1 ∨ m = 2 ∨ m = 3 by omega) with rfl | rfl | rfl | rfl <;> decide
  exact ⟨key s hs m hm, key s hs m hm⟩
theorem e_turned {N a s m : Nat} {L : RS} {Q : Int32 → Prop} (ha : a ≤ 2) (hs : s ≤ 3) (hm : m ≤ 3) (e : L.1 0 = nI a) (h : Q (nI (trd a s m))) : fX1_turned N L (nI s) (nI m) Q := by
  unfold fX1_turned
  rw [e]
  rcases (show a = 0 ∨ a = 1 ∨ a = 2 by omega) with rfl | rfl | rfl
  · exact ⟨fun c => absurd rfl c, fun _ => h⟩
  · refine ⟨fun _ => ⟨fun _ => ⟨fun c => ?_, fun c => ?_⟩, fun c => absurd c (by decide)⟩, fun c => absurd c (by decide)⟩
    · have h0 : s ≠ 0 := fun q => c (by rw [q]; rfl)
      simp only [trd, h0] at h
      exact h
    · have h0 : s = 0 := (nI_eq (by omega) (by omega)).mp (show nI s = nI 0 from c)
      simp only [trd, h0] at h
      exact h
  · refine ⟨fun _ => ⟨fun c => absurd rfl c, fun _ => ?_⟩, fun c => absurd c (by decide)⟩
    rw [(dec1 hs m hm).1]
    exact h
theorem e_runOn {N a s : Nat} {L : RS} {Q : Int32 → Prop} (ha : a ≤ 2) (hs : s ≤ 3) (e : L.1 0 = nI a) (h : Q (nI (rno a s))) : fX1_runOn N L (nI s) Q := by
  unfold fX1_runOn
  rw [e]
  have key : (if nI s - 1 < 0 then 0 else nI s - 1) = nI (s - 1) := by
    have := (dec1 hs 0 (by omega)).1
    rw [if_neg (show ¬ s - 1 < 0 by omega)] at this
    exact this
  rcases (show a = 0 ∨ 0 < a by omega) with rfl | h0
  · exact ⟨fun c => absurd rfl c, fun _ => h⟩
  · refine ⟨fun _ => ?_, fun c => absurd ((nI_eq (by omega) (by omega)).mp (show nI a = nI 0 from c)) (by omega)⟩
    rw [key]
    simp only [rno, if_neg (show ¬ a = 0 by omega)] at h
    exact h
/-- the class's own step -/
theorem e_after {N a s m t : Nat} {L : RS} {Q : Int32 → Prop} (ha : a ≤ 2) (hs : s ≤ 3) (hm : m ≤ 3) (ht : t < 64) (e0 : L.1 0 = nI a) (e1 : L.1 1 = nI m) (h : Q (match nx (a, m, tb (L.2.2.1 2), tb (L.2.2.1 3)) s t with | none => -1 | some z => nI z)) : fX1_after N L (nI s) (nI t) Q := by
  unfold fX1_after
  rw [e1]
  refine e_breaking ha hs hm e0 (e_has ht ?_)
  rw [mk_ok ha ht] at h
  cases hb : tb (brk a (L.2.2.1 2) (L.2.2.1 3) s m) t
  · rw [hb] at h
    refine ⟨fun _ => ?_, fun c => absurd rfl c⟩
    refine e_turning ha hs e0 (e_has ht ?_)
    cases hc : tb (trn a (L.2.2.1 2) (L.2.2.1 3) s) t
    · rw [hc] at h
      exact ⟨fun _ => e_runOn ha hs e0 h, fun c => absurd rfl c⟩
    · rw [hc] at h
      exact ⟨fun c => absurd c (by decide), fun _ => e_turned ha hs hm e0 h⟩
  · rw [hb] at h
    exact ⟨fun c => absurd c (by decide), fun _ => h⟩
/-- the reference's step -/
theorem e_stateBehind {N a s m t i : Nat} {S : RS} {Q : Int32 → Prop} (hi : i < 20) (ha : a ≤ 2) (hs : s ≤ 3) (hm : m ≤ 3) (ht : t < 64) (e0 : S.2.1 3 i = nI a) (h : Q (match nx (a, m, tb (S.2.2.2 5 i), tb (S.2.2.2 6 i)) s t with | none => -4 | some z => nI z)) : fX6_stateBehind N S (nI i) (nI m) (nI s) (nI t) Q := by
  have hv : vp_in (nI i) 20 := vp_in_nI (by omega) (by omega)
  have key : ∀ x y : Bool, tb (S.2.2.2 5 i) t = x → tb (S.2.2.2 6 i) t = y → fX6_stateBehind_44 N S (nI i) (nI m) (nI s) (if x then 1 else 0) (if y then 1 else 0) Q := by
    intro x y hx hy
    unfold fX6_stateBehind_44
    rw [nI_clamp (by omega), e0]
    have z0 : nI s ≤ 0 ↔ s = 0 := by
      have := nI_leI (a := s) (b := 0) (by omega) (by omega)
      rw [Nat.le_zero] at this
      exact this
    have z1 : nI s = 1 ↔ s = 1 := nI_eq (b := 1) (by omega) (by omega)
    have z2 : nI m = 0 ↔ m = 0 := nI_eq (b := 0) (by omega) (by omega)
    rcases (show a = 0 ∨ a = 1 ∨ a = 2 by omega) with rfl | rfl | rfl
    · refine ⟨hv, fun c => absurd rfl c, fun _ => ?_⟩
      simp only [nx, if_pos, hx] at h
      cases x
      · exact ⟨fun _ => h, fun c => absurd rfl c⟩
      · exact ⟨fun c => absurd c (by decide), fun _ => h⟩
    · refine ⟨hv, fun _ => ⟨hv, fun c => absurd rfl c, fun _ => ⟨fun c => ?_, fun c => ?_⟩⟩, fun c => absurd c (by decide)⟩
      · cases y
        · simp only [nx, hx, hy] at h
          refine ⟨fun c0 => ?_, fun c0 => ⟨fun c1 => ?_, fun c1 => ?_⟩⟩
          · have hs0 := z0.mp c0
            subst hs0
            cases x
            · exact ⟨fun c => absurd rfl c, fun _ => h⟩
            · refine ⟨fun _ => ⟨fun c2 => ?_, fun c2 => ?_⟩, fun c => absurd c (by decide)⟩
              · have : m ≠ 0 := fun q => c2 (z2.mpr q)
                simpa [this] using h
              · have := z2.mp c2
                simpa [this] using h
          · have hs0 : s ≠ 0 := fun q => c0 (z0.mpr q)
            have hs1 : s ≠ 1 := fun q => c1 (z1.mpr q)
            have hp : 0 < s := by omega
            have e : nI s - 1 = nI (s - 1) := pk_sub (b := 1) (by omega)
            rw [e]
            simpa [hp, hs1] using h
          · have hs1 := z1.mp c1
            subst hs1
            simpa using h
        · exact absurd c (by decide)
      · cases y
        · exact absurd rfl c
        · simp only [nx, hy] at h
          exact h
    · have h134 : (¬ (0 < s ∧ y = false)) → fX6_stateBehind_134 N S (nI m) (nI s) (if x then 1 else 0) Q := by
        intro hno
        unfold fX6_stateBehind_134
        have hz : nx (2, m, tb (S.2.2.2 5 i), tb (S.2.2.2 6 i)) s t = if x = true ∧ s - 1 < m then some m else some (s - 1) := by
          simp only [nx, hx, hy]
          rw [if_neg (by omega), if_neg (by omega), if_neg (by
            intro hh
            exact hno ⟨hh.1, by simpa using hh.2⟩)]
        rw [hz] at h
        have fin : ∀ k : Int32, k = nI (s - 1) → fX6_stateBehind_145 N S (nI m) (if x then 1 else 0) k Q := by
          intro k ek
          unfold fX6_stateBehind_145
          rw [ek]
          cases x
          · refine ⟨fun _ => ?_, fun c => absurd rfl c⟩
            simpa using h
          · refine ⟨fun c => absurd c (by decide), fun _ => ⟨fun c => ?_, fun c => ?_⟩⟩
            · have := (nI_leI (by omega) (by omega)).mp c
              rw [if_neg (by omega)] at h
              exact h
            · have : ¬ m ≤ s - 1 := fun q => c (nI_le q (by omega))
              rw [if_pos ⟨rfl, by omega⟩] at h
              exact h
        refine ⟨fun c => fin 0 ?_, fun c => fin _ ?_⟩
        · rw [z0.mp c]
          rfl
        · have : s ≠ 0 := fun q => c (z0.mpr q)
          exact pk_sub (b := 1) (by omega)
      refine ⟨hv, fun _ => ⟨hv, fun _ => ⟨fun c => h134 (fun q => by have := z0.mp c; omega), fun c => ⟨fun c1 => h134 (fun q => ?_), fun c1 => ?_⟩⟩, fun c => absurd c (by decide)⟩, fun c => absurd c (by decide)⟩
      · rw [q.2] at c1
        exact c1 rfl
      · have : s ≠ 0 := fun q => c (z0.mpr q)
        have hp : 0 < s := by omega
        cases y
        · simpa [nx, hy, hp] using h
        · exact absurd c1 (by decide)
  unfold fX6_stateBehind fX6_stateBehind_21
  rw [nI_clamp (by omega), land1, land1, lsshr_tb ht, lsshr_tb ht]
  have step2 : ∀ x : Bool, tb (S.2.2.2 5 i) t = x → (vp_in (nI i) 20 ∧ ((¬ (if tb (S.2.2.2 6 i) t then (1 : Int64) else 0) = 1 → fX6_stateBehind_44 N S (nI i) (nI m) (nI s) (if x then 1 else 0) 0 Q) ∧ ((if tb (S.2.2.2 6 i) t then (1 : Int64) else 0) = 1 → fX6_stateBehind_44 N S (nI i) (nI m) (nI s) (if x then 1 else 0) 1 Q))) := by
    intro x hx
    refine ⟨hv, fun c => ?_, fun c => ?_⟩
    · have : tb (S.2.2.2 6 i) t = false := by
        cases q : tb (S.2.2.2 6 i) t
        · rfl
        · rw [q] at c
          exact absurd rfl c
      exact key x false hx this
    · have : tb (S.2.2.2 6 i) t = true := by
        cases q : tb (S.2.2.2 6 i) t
        · rw [q] at c
          exact absurd c (by decide)
        · rfl
      exact key x true hx this
  refine ⟨hv, fun c => ?_, fun c => ?_⟩
  · have : tb (S.2.2.2 5 i) t = false := by
      cases q : tb (S.2.2.2 5 i) t
      · rfl
      · rw [q] at c
        exact absurd rfl c
    exact step2 false this
  · have : tb (S.2.2.2 5 i) t = true := by
      cases q : tb (S.2.2.2 5 i) t
      · rw [q] at c
        exact absurd c (by decide)
      · rfl
    exact step2 true this
theorem nx_lt {a m s t z : Nat} {E F : Nat → Bool} (hm : m ≤ 3) (hs : s ≤ 3) (h : nx (a, m, E, F) s t = some z) : z ≤ 3 := by
  simp only [nx] at h
  split at h
  · split at h
    · cases h
    · cases h; omega
  · split at h
    · split at h
      · cases h; omega
      · split at h
        · split at h
          · cases h
          · cases h; omega
        · split at h
          · split at h
            · cases h
            · cases h; omega
          · cases h; omega
    · split at h
      · cases h
      · split at h
        · cases h; omega
        · cases h; omega
