def rmR (d : Nat) : Room := { frames := 10 + d, cells := 0, slots := 0, locals := 400 + 40 * d }
theorem rmR_ok (d m : Nat) (hm : m ≤ 21) : (rmR d).frames + 1 ≤ (rmR (d + 1)).frames ∧ 8 + (m + 11) + (rmR d).locals ≤ (rmR (d + 1)).locals := by
  simp only [rmR]; omega
theorem rmR_F (d f o : Nat) (hf : f ≤ 10) (ho : o ≤ 400) : f ≤ (rmR d).frames ∧ o ≤ (rmR d).locals ∧ (rmR d).cells = 0 ∧ (rmR d).slots = 0 := ⟨by simp only [rmR]; omega, by simp only [rmR]; omega, rfl, rfl⟩
def rmJ6_bitCount_0f7a4 : Room := { frames := 0, cells := 0, slots := 0, locals := 0 }
theorem kwJ6_bitCount_0f7a4_0 : Cond.constant RJ6 265 1431655765 ∈ wsJ6_bitCount_0f7a4 := by decide +kernel
theorem kwJ6_bitCount_0f7a4_1 : Cond.constant RJ6 266 858993459 ∈ wsJ6_bitCount_0f7a4 := by decide +kernel
theorem kwJ6_bitCount_0f7a4_2 : Cond.constant RJ6 267 252645135 ∈ wsJ6_bitCount_0f7a4 := by decide +kernel
def fJ6_bitCount_0f7a4 (N : Nat) (v0 : Int32) (Q : Int32 → Prop) : Prop :=
  (∀ x1 : Int32, x1 = v0 - (((v0.toUInt32 >>> ((1 : Int32).toUInt32 &&& Int32.toUInt32 31)).toInt32) &&& (1431655765 : Int32)) → (∀ x2 : Int32, x2 = (x1 &&& (858993459 : Int32)) + (((x1.toUInt32 >>> ((2 : Int32).toUInt32 &&& Int32.toUInt32 31)).toInt32) &&& (858993459 : Int32)) → (∀ x3 : Int32, x3 = (x2 + ((x2.toUInt32 >>> ((4 : Int32).toUInt32 &&& Int32.toUInt32 31)).toInt32)) &&& (252645135 : Int32) → (∀ x4 : Int32, x4 = x3 + ((x3.toUInt32 >>> ((8 : Int32).toUInt32 &&& Int32.toUInt32 31)).toInt32) → (∀ x5 : Int32, x5 = x4 + ((x4.toUInt32 >>> ((16 : Int32).toUInt32 &&& Int32.toUInt32 31)).toInt32) → Q (x5 &&& (63 : Int32)))))))
set_option maxRecDepth 100000 in
set_option maxHeartbeats 4000000 in
theorem tJ6_bitCount_0f7a4 (l : Launch) (g : Gx) (N : Nat) (v0 : Int32) (Q : Int32 → Prop) (h : fJ6_bitCount_0f7a4 N v0 Q) : MetG l g yJ6_bitCount_0f7a4 wsJ6_bitCount_0f7a4 rmJ6_bitCount_0f7a4 [.int v0] (([] : va_W)) (fun _ : Unit => ([] : va_W)) (qI (fun (r : Int32) (_ : Unit) => Q r)) 0 0 := by
  refine met_of (cc := cJ6_bitCount_0f7a4) (own := RJ6) (nL := 1) (ret := (some .int)) (lv := [(0, .int v0)]) (by decide) rfl rfl (Nat.le_of_ble_eq_true rfl) rfl ?_
  intro x C hl hZ
  subst hl
  unfold fJ6_bitCount_0f7a4 at h
  refine r_iload_n C dJ6_bitCount_0f7a4_0 rfl ?_
  refine r_iload_n C dJ6_bitCount_0f7a4_1 rfl ?_
  refine r_iconst (v := 1) C dJ6_bitCount_0f7a4_2 (by decide) ?_
  refine r_iushr C dJ6_bitCount_0f7a4_3 ?_
  refine r_ldcw C kwJ6_bitCount_0f7a4_0 dJ6_bitCount_0f7a4_4 ?_
  refine r_iand C dJ6_bitCount_0f7a4_7 ?_
  refine r_isub C dJ6_bitCount_0f7a4_8 ?_
  refine r_topi (fun x1 ex1 => ?_)
  have h := h x1 ex1
  refine r_istore_n (lv' := [(0, .int x1)]) C dJ6_bitCount_0f7a4_9 [none] (by decide) rfl rfl ?_
  refine r_iload_n C dJ6_bitCount_0f7a4_10 rfl ?_
  refine r_ldcw C kwJ6_bitCount_0f7a4_1 dJ6_bitCount_0f7a4_11 ?_
  refine r_iand C dJ6_bitCount_0f7a4_14 ?_
  refine r_iload_n C dJ6_bitCount_0f7a4_15 rfl ?_
  refine r_iconst (v := 2) C dJ6_bitCount_0f7a4_16 (by decide) ?_
  refine r_iushr C dJ6_bitCount_0f7a4_17 ?_
  refine r_ldcw C kwJ6_bitCount_0f7a4_1 dJ6_bitCount_0f7a4_18 ?_
  refine r_iand C dJ6_bitCount_0f7a4_21 ?_
  refine r_iadd C dJ6_bitCount_0f7a4_22 ?_
  refine r_topi (fun x2 ex2 => ?_)
  have h := h x2 ex2
  refine r_istore_n (lv' := [(0, .int x2)]) C dJ6_bitCount_0f7a4_23 [none] (by decide) rfl rfl ?_
  refine r_iload_n C dJ6_bitCount_0f7a4_24 rfl ?_
  refine r_iload_n C dJ6_bitCount_0f7a4_25 rfl ?_
  refine r_iconst (v := 4) C dJ6_bitCount_0f7a4_26 (by decide) ?_
  refine r_iushr C dJ6_bitCount_0f7a4_27 ?_
  refine r_iadd C dJ6_bitCount_0f7a4_28 ?_
  refine r_ldcw C kwJ6_bitCount_0f7a4_2 dJ6_bitCount_0f7a4_29 ?_
  refine r_iand C dJ6_bitCount_0f7a4_32 ?_
  refine r_topi (fun x3 ex3 => ?_)
  have h := h x3 ex3
  refine r_istore_n (lv' := [(0, .int x3)]) C dJ6_bitCount_0f7a4_33 [none] (by decide) rfl rfl ?_
  refine r_iload_n C dJ6_bitCount_0f7a4_34 rfl ?_
  refine r_iload_n C dJ6_bitCount_0f7a4_35 rfl ?_
  refine r_bipush (v := 8) C dJ6_bitCount_0f7a4_36 (by decide) ?_
  refine r_iushr C dJ6_bitCount_0f7a4_38 ?_
  refine r_iadd C dJ6_bitCount_0f7a4_39 ?_
  refine r_topi (fun x4 ex4 => ?_)
  have h := h x4 ex4
  refine r_istore_n (lv' := [(0, .int x4)]) C dJ6_bitCount_0f7a4_40 [none] (by decide) rfl rfl ?_
  refine r_iload_n C dJ6_bitCount_0f7a4_41 rfl ?_
  refine r_iload_n C dJ6_bitCount_0f7a4_42 rfl ?_
  refine r_bipush (v := 16) C dJ6_bitCount_0f7a4_43 (by decide) ?_
  refine r_iushr C dJ6_bitCount_0f7a4_45 ?_
  refine r_iadd C dJ6_bitCount_0f7a4_46 ?_
  refine r_topi (fun x5 ex5 => ?_)
  have h := h x5 ex5
  refine r_istore_n (lv' := [(0, .int x5)]) C dJ6_bitCount_0f7a4_47 [none] (by decide) rfl rfl ?_
  refine r_iload_n C dJ6_bitCount_0f7a4_48 rfl ?_
  refine r_bipush (v := 63) C dJ6_bitCount_0f7a4_49 (by decide) ?_
  refine r_iand C dJ6_bitCount_0f7a4_51 ?_
  exact r_iret C hZ (u := ()) h rfl dJ6_bitCount_0f7a4_52
def rmX1_init : Room := { frames := 1, cells := 0, slots := 0, locals := 30 }
theorem kwX1_init_0 : Cond.methodLink RX1 3 objectInit ∈ wsX1_init := by decide +kernel
theorem kwX1_init_1 : Cond.instanceMethod objectInit ∈ wsX1_init := by decide +kernel
theorem kwX1_init_2 : Cond.code objectInit ⟨#[0xb1]⟩ 1 none ∈ wsX1_init := by decide +kernel
theorem kwX1_init_3 : Cond.fieldLink RX1 9 "WantsBench$Law" "upDay" "I" ∈ wsX1_init := by decide +kernel
theorem uwX1_init_1 : ∀ w ∈ wsX10, w ∈ wsX1_init := by decide +kernel
theorem kwX1_init_5 : Cond.fieldLink RX1 15 "WantsBench$Tape" "sort" "I" ∈ wsX1_init := by decide +kernel
theorem uwX1_init_3 : ∀ w ∈ wsX30, w ∈ wsX1_init := by decide +kernel
theorem kwX1_init_7 : Cond.fieldLink RX1 20 "WantsBench$Law" "sort" "I" ∈ wsX1_init := by decide +kernel
theorem kwX1_init_8 : Cond.fieldLink RX1 21 "WantsBench$Tape" "n" "I" ∈ wsX1_init := by decide +kernel
theorem kwX1_init_9 : Cond.fieldLink RX1 24 "WantsBench$Law" "n" "I" ∈ wsX1_init := by decide +kernel
theorem kwX1_init_10 : Cond.fieldLink RX1 25 "WantsBench$Tape" "first" "J" ∈ wsX1_init := by decide +kernel
theorem kwX1_init_11 : Cond.fieldLink RX1 29 "WantsBench$Law" "first" "J" ∈ wsX1_init := by decide +kernel
theorem kwX1_init_12 : Cond.fieldLink RX1 30 "WantsBench$Tape" "second" "J" ∈ wsX1_init := by decide +kernel
theorem kwX1_init_13 : Cond.fieldLink RX1 33 "WantsBench$Law" "second" "J" ∈ wsX1_init := by decide +kernel
theorem kwX1_init_14 : Cond.fieldLink RX1 34 "WantsBench$Tape" "length" "I" ∈ wsX1_init := by decide +kernel
theorem kwX1_init_15 : Cond.fieldLink RX1 37 "WantsBench$Law" "textLength" "I" ∈ wsX1_init := by decide +kernel
theorem kwX1_init_16 : Cond.fieldLink RX1 40 "WantsBench$Law" "owner" "I" ∈ wsX1_init := by decide +kernel
theorem kwX1_init_17 : Cond.fieldLink RX1 43 "WantsBench$Law" "worth" "I" ∈ wsX1_init := by decide +kernel
theorem kwX1_init_18 : Cond.fieldLink RX1 46 "WantsBench$Law" "ease" "I" ∈ wsX1_init := by decide +kernel
theorem kwX1_init_19 : Cond.fieldLink RX1 49 "WantsBench$Law" "day" "I" ∈ wsX1_init := by decide +kernel
def fX1_init (N : Nat) (L : RS) (T : RS) (v2 : Int32) (v3 : Int32) (v4 : Int32) (v5 : Int32) (Q : RS → Prop) : Prop :=
  (∀ L1 : RS, L1 = sI L 9 (-1) → (∀ L2 : RS, L2 = sI L1 0 (T.1 4) → (∀ L3 : RS, L3 = sI L2 1 (T.1 5) → (∀ L4 : RS, L4 = sL L3 2 (T.2.2.1 6) → (∀ L5 : RS, L5 = sL L4 3 (T.2.2.1 7) → (∀ L6 : RS, L6 = sI L5 4 (T.1 1) → (∀ L7 : RS, L7 = sI L6 5 v2 → (∀ L8 : RS, L8 = sI L7 6 v3 → (∀ L9 : RS, L9 = sI L8 7 v4 → (∀ L10 : RS, L10 = sI L9 8 v5 → Q L10))))))))))
set_option maxRecDepth 100000 in
set_option maxHeartbeats 4000000 in
theorem tX1_init (l : Launch) (g : Gx) (q : Nat) (a : Nat → Nat) (L : RS) (T : RS) (N : Nat) (v2 : Int32) (v3 : Int32) (v4 : Int32) (v5 : Int32) (Q : RS → Prop) (h : fX1_init N L T v2 v3 v4 v5 Q) : MetG l g yX1_init wsX1_init rmX1_init [.ref q, .ref (a 50), .int v2, .int v3, .int v4, .int v5] ([(q, lawE L)] ++ tW g a T) (fun u : RS => [(q, lawE u)] ++ tW g a T) (qV (fun u : RS => Q u)) 0 0 := by
  refine met_of (cc := cX1_init) (own := RX1) (nL := 6) (ret := none) (lv := [(0, .ref q), (1, .ref (a 50)), (2, .int v2), (3, .int v3), (4, .int v4), (5, .int v5)]) (by decide) rfl rfl (Nat.le_of_ble_eq_true rfl) rfl ?_
  intro x C hl hZ
  subst hl
  unfold fX1_init at h
  refine r_aload_n C dX1_init_0 rfl ?_
  refine r_objinit C kwX1_init_0 kwX1_init_1 kwX1_init_2 (Nat.le_of_ble_eq_true rfl) (Nat.le_of_ble_eq_true rfl) dX1_init_1 ?_
  refine r_aload_n C dX1_init_4 rfl ?_
  refine r_iconst (v := (-1)) C dX1_init_5 (by decide) ?_
  obtain ⟨L1, hL1⟩ : ∃ z : RS, z = sI L 9 (-1) := ⟨_, rfl⟩
  have h := h L1 hL1
  refine r_put (cn := RX1) (T := TX1) (N := 11) (ci := 1) (ws' := [(q, lawE L1)] ++ tW g a T) C uwX1_init_1 tyX1 tyX1_ok nmX1 0 rfl rfl 9 (by decide) kwX1_init_3 rfl rfl rfl (Nat.le_of_ble_eq_true rfl) dX1_init_6 (by rw [hL1]; rfl) ?_
  refine r_aload_n C dX1_init_9 rfl ?_
  refine r_aload_n C dX1_init_10 rfl ?_
  refine r_get (cn := RX3) (T := TX3) (N := 8) (ci := 3) C uwX1_init_3 1 rfl rfl 4 (by decide) kwX1_init_5 (v := .int (T.1 4)) rfl dX1_init_11 ?_
  obtain ⟨L2, hL2⟩ : ∃ z : RS, z = sI L1 0 (T.1 4) := ⟨_, rfl⟩
  have h := h L2 hL2
  refine r_putF (cn := RX1) (T := TX1) (N := 11) (ci := 1) (ws' := [(q, lawE L2)] ++ tW g a T) C uwX1_init_1 tyX1 tyX1_ok nmX1 0 rfl rfl 0 (by decide) kwX1_init_7 rfl rfl rfl rfl rfl (Nat.le_of_ble_eq_true rfl) dX1_init_14 (by rw [hL2]; rfl) ?_
  refine r_aload_n C dX1_init_17 rfl ?_
  refine r_aload_n C dX1_init_18 rfl ?_
  refine r_get (cn := RX3) (T := TX3) (N := 8) (ci := 3) C uwX1_init_3 1 rfl rfl 5 (by decide) kwX1_init_8 (v := .int (T.1 5)) rfl dX1_init_19 ?_
  obtain ⟨L3, hL3⟩ : ∃ z : RS, z = sI L2 1 (T.1 5) := ⟨_, rfl⟩
  have h := h L3 hL3
  refine r_putF (cn := RX1) (T := TX1) (N := 11) (ci := 1) (ws' := [(q, lawE L3)] ++ tW g a T) C uwX1_init_1 tyX1 tyX1_ok nmX1 0 rfl rfl 1 (by decide) kwX1_init_9 rfl rfl rfl rfl rfl (Nat.le_of_ble_eq_true rfl) dX1_init_22 (by rw [hL3]; rfl) ?_
  refine r_aload_n C dX1_init_25 rfl ?_
  refine r_aload_n C dX1_init_26 rfl ?_
  refine r_get (cn := RX3) (T := TX3) (N := 8) (ci := 3) C uwX1_init_3 1 rfl rfl 6 (by decide) kwX1_init_10 (v := .long (T.2.2.1 6)) rfl dX1_init_27 ?_
  obtain ⟨L4, hL4⟩ : ∃ z : RS, z = sL L3 2 (T.2.2.1 6) := ⟨_, rfl⟩
  have h := h L4 hL4
  refine r_putF (cn := RX1) (T := TX1) (N := 11) (ci := 1) (ws' := [(q, lawE L4)] ++ tW g a T) C uwX1_init_1 tyX1 tyX1_ok nmX1 0 rfl rfl 2 (by decide) kwX1_init_11 rfl rfl rfl rfl rfl (Nat.le_of_ble_eq_true rfl) dX1_init_30 (by rw [hL4]; rfl) ?_
  refine r_aload_n C dX1_init_33 rfl ?_
  refine r_aload_n C dX1_init_34 rfl ?_
  refine r_get (cn := RX3) (T := TX3) (N := 8) (ci := 3) C uwX1_init_3 1 rfl rfl 7 (by decide) kwX1_init_12 (v := .long (T.2.2.1 7)) rfl dX1_init_35 ?_
  obtain ⟨L5, hL5⟩ : ∃ z : RS, z = sL L4 3 (T.2.2.1 7) := ⟨_, rfl⟩
  have h := h L5 hL5
  refine r_putF (cn := RX1) (T := TX1) (N := 11) (ci := 1) (ws' := [(q, lawE L5)] ++ tW g a T) C uwX1_init_1 tyX1 tyX1_ok nmX1 0 rfl rfl 3 (by decide) kwX1_init_13 rfl rfl rfl rfl rfl (Nat.le_of_ble_eq_true rfl) dX1_init_38 (by rw [hL5]; rfl) ?_
  refine r_aload_n C dX1_init_41 rfl ?_
  refine r_aload_n C dX1_init_42 rfl ?_
  refine r_get (cn := RX3) (T := TX3) (N := 8) (ci := 3) C uwX1_init_3 1 rfl rfl 1 (by decide) kwX1_init_14 (v := .int (T.1 1)) rfl dX1_init_43 ?_
  obtain ⟨L6, hL6⟩ : ∃ z : RS, z = sI L5 4 (T.1 1) := ⟨_, rfl⟩
  have h := h L6 hL6
  refine r_putF (cn := RX1) (T := TX1) (N := 11) (ci := 1) (ws' := [(q, lawE L6)] ++ tW g a T) C uwX1_init_1 tyX1 tyX1_ok nmX1 0 rfl rfl 4 (by decide) kwX1_init_15 rfl rfl rfl rfl rfl (Nat.le_of_ble_eq_true rfl) dX1_init_46 (by rw [hL6]; rfl) ?_
  refine r_aload_n C dX1_init_49 rfl ?_
  refine r_iload_n C dX1_init_50 rfl ?_
  obtain ⟨L7, hL7⟩ : ∃ z : RS, z = sI L6 5 v2 := ⟨_, rfl⟩
  have h := h L7 hL7
  refine r_putF (cn := RX1) (T := TX1) (N := 11) (ci := 1) (ws' := [(q, lawE L7)] ++ tW g a T) C uwX1_init_1 tyX1 tyX1_ok nmX1 0 rfl rfl 5 (by decide) kwX1_init_16 rfl rfl rfl rfl rfl (Nat.le_of_ble_eq_true rfl) dX1_init_51 (by rw [hL7]; rfl) ?_
  refine r_aload_n C dX1_init_54 rfl ?_
  refine r_iload_n C dX1_init_55 rfl ?_
  obtain ⟨L8, hL8⟩ : ∃ z : RS, z = sI L7 6 v3 := ⟨_, rfl⟩
  have h := h L8 hL8
  refine r_putF (cn := RX1) (T := TX1) (N := 11) (ci := 1) (ws' := [(q, lawE L8)] ++ tW g a T) C uwX1_init_1 tyX1 tyX1_ok nmX1 0 rfl rfl 6 (by decide) kwX1_init_17 rfl rfl rfl rfl rfl (Nat.le_of_ble_eq_true rfl) dX1_init_56 (by rw [hL8]; rfl) ?_
  refine r_aload_n C dX1_init_59 rfl ?_
  refine r_iload C dX1_init_60 rfl ?_
  obtain ⟨L9, hL9⟩ : ∃ z : RS, z = sI L8 7 v4 := ⟨_, rfl⟩
  have h := h L9 hL9
  refine r_putF (cn := RX1) (T := TX1) (N := 11) (ci := 1) (ws' := [(q, lawE L9)] ++ tW g a T) C uwX1_init_1 tyX1 tyX1_ok nmX1 0 rfl rfl 7 (by decide) kwX1_init_18 rfl rfl rfl rfl rfl (Nat.le_of_ble_eq_true rfl) dX1_init_62 (by rw [hL9]; rfl) ?_
  refine r_aload_n C dX1_init_65 rfl ?_
  refine r_iload C dX1_init_66 rfl ?_
  obtain ⟨L10, hL10⟩ : ∃ z : RS, z = sI L9 8 v5 := ⟨_, rfl⟩
  have h := h L10 hL10
  refine r_putF (cn := RX1) (T := TX1) (N := 11) (ci := 1) (ws' := [(q, lawE L10)] ++ tW g a T) C uwX1_init_1 tyX1 tyX1_ok nmX1 0 rfl rfl 8 (by decide) kwX1_init_19 rfl rfl rfl rfl rfl (Nat.le_of_ble_eq_true rfl) dX1_init_68 (by rw [hL10]; rfl) ?_
  exact r_vret C hZ (u := L10) h rfl dX1_init_71
def rmX1_has : Room := { frames := 0, cells := 0, slots := 0, locals := 0 }
def fX1_has (N : Nat) (v0 : Int64) (v2 : Int32) (Q : Int32 → Prop) : Prop :=
  ((¬ (((v0.toUInt64 >>> (v2.toInt64.toUInt64 &&& Int64.toUInt64 63)).toInt64) &&& (1 : Int64)) = 1 → Q 0) ∧ ((((v0.toUInt64 >>> (v2.toInt64.toUInt64 &&& Int64.toUInt64 63)).toInt64) &&& (1 : Int64)) = 1 → Q 1))
set_option maxRecDepth 100000 in
set_option maxHeartbeats 4000000 in
theorem tX1_has (l : Launch) (g : Gx) (N : Nat) (v0 : Int64) (v2 : Int32) (Q : Int32 → Prop) (h : fX1_has N v0 v2 Q) : MetG l g yX1_has wsX1_has rmX1_has [.long v0, .int v2] (([] : va_W)) (fun _ : Unit => ([] : va_W)) (qI (fun (r : Int32) (_ : Unit) => Q r)) 0 0 := by
  refine met_of (cc := cX1_has) (own := RX1) (nL := 3) (ret := (some .boolean)) (lv := [(0, .long v0), (2, .int v2)]) (by decide) rfl rfl (Nat.le_of_ble_eq_true rfl) rfl ?_
  intro x C hl hZ
  subst hl
  unfold fX1_has at h
  refine r_lload_n C dX1_has_0 rfl ?_
  refine r_iload_n C dX1_has_1 rfl ?_
  refine r_lushr C dX1_has_2 ?_
  refine r_lconst (v := 1) C dX1_has_3 (by decide) ?_
  refine r_land C dX1_has_4 ?_
  refine r_lconst (v := 1) C dX1_has_5 (by decide) ?_
  refine r_lcmp_ne (tgt := 14) C dX1_has_6 dX1_has_7 (by decide) (fun c1 => ?_) (fun c1 => ?_)
  · have h := h.1 c1
    refine r_iconst (v := 0) C dX1_has_14 (by decide) ?_
    exact r_zret C hZ (u := ()) (by decide) h rfl dX1_has_15
  · have h := h.2 c1
    refine r_iconst (v := 1) C dX1_has_10 (by decide) ?_
    refine r_goto (tgt := 15) C dX1_has_11 (by decide) ?_
    exact r_zret C hZ (u := ()) (by decide) h rfl dX1_has_15
def rmX1_isKnown : Room := { frames := 0, cells := 0, slots := 0, locals := 0 }
theorem kwX1_isKnown_0 : Cond.fieldLink RX1 49 "WantsBench$Law" "day" "I" ∈ wsX1_isKnown := by decide +kernel
theorem uwX1_isKnown_1 : ∀ w ∈ wsX10, w ∈ wsX1_isKnown := by decide +kernel
theorem kwX1_isKnown_2 : Cond.fieldLink RX1 9 "WantsBench$Law" "upDay" "I" ∈ wsX1_isKnown := by decide +kernel
def fX1_isKnown (N : Nat) (L : RS) (v1 : Int32) (Q : Int32 → Prop) : Prop :=
  ((v1 < (L.1 8) → Q 0) ∧ (¬ v1 < (L.1 8) → (((L.1 9) < 0 → Q 1) ∧ (¬ (L.1 9) < 0 → (((L.1 9) ≤ v1 → Q 0) ∧ (¬ (L.1 9) ≤ v1 → Q 1))))))
set_option maxRecDepth 100000 in
set_option maxHeartbeats 4000000 in
theorem tX1_isKnown (l : Launch) (g : Gx) (q : Nat) (L : RS) (N : Nat) (v1 : Int32) (Q : Int32 → Prop) (h : fX1_isKnown N L v1 Q) : MetG l g yX1_isKnown wsX1_isKnown rmX1_isKnown [.ref q, .int v1] ([(q, lawE L)]) (fun _ : Unit => [(q, lawE L)]) (qI (fun (r : Int32) (_ : Unit) => Q r)) 0 0 := by
  refine met_of (cc := cX1_isKnown) (own := RX1) (nL := 2) (ret := (some .boolean)) (lv := [(0, .ref q), (1, .int v1)]) (by decide) rfl rfl (Nat.le_of_ble_eq_true rfl) rfl ?_
  intro x C hl hZ
  subst hl
  unfold fX1_isKnown at h
  refine r_aload_n C dX1_isKnown_0 rfl ?_
  refine r_get (cn := RX1) (T := TX1) (N := 11) (ci := 1) C uwX1_isKnown_1 0 rfl rfl 8 (by decide) kwX1_isKnown_0 (v := .int (L.1 8)) rfl dX1_isKnown_1 ?_
  refine r_iload_n C dX1_isKnown_4 rfl ?_
  refine r_icmp_gt (tgt := 27) C dX1_isKnown_5 (by decide) (fun c1 => ?_) (fun c1 => ?_)
  · have h := h.1 c1
    refine r_iconst (v := 0) C dX1_isKnown_27 (by decide) ?_
    exact r_zret C hZ (u := ()) (by decide) h rfl dX1_isKnown_28
  · have h := h.2 c1
    refine r_aload_n C dX1_isKnown_8 rfl ?_
    refine r_get (cn := RX1) (T := TX1) (N := 11) (ci := 1) C uwX1_isKnown_1 0 rfl rfl 9 (by decide) kwX1_isKnown_2 (v := .int (L.1 9)) rfl dX1_isKnown_9 ?_
    refine r_if_lt (tgt := 23) C dX1_isKnown_12 (by decide) (fun c2 => ?_) (fun c2 => ?_)
    · have h := h.1 c2
      refine r_iconst (v := 1) C dX1_isKnown_23 (by decide) ?_
      refine r_goto (tgt := 28) C dX1_isKnown_24 (by decide) ?_
      exact r_zret C hZ (u := ()) (by decide) h rfl dX1_isKnown_28
    · have h := h.2 c2
      refine r_aload_n C dX1_isKnown_15 rfl ?_
      refine r_get (cn := RX1) (T := TX1) (N := 11) (ci := 1) C uwX1_isKnown_1 0 rfl rfl 9 (by decide) kwX1_isKnown_2 (v := .int (L.1 9)) rfl dX1_isKnown_16 ?_
      refine r_iload_n C dX1_isKnown_19 rfl ?_
      refine r_icmp_le (tgt := 27) C dX1_isKnown_20 (by decide) (fun c3 => ?_) (fun c3 => ?_)
      · have h := h.1 c3
        refine r_iconst (v := 0) C dX1_isKnown_27 (by decide) ?_
        exact r_zret C hZ (u := ()) (by decide) h rfl dX1_isKnown_28
      · have h := h.2 c3
        refine r_iconst (v := 1) C dX1_isKnown_23 (by decide) ?_
        refine r_goto (tgt := 28) C dX1_isKnown_24 (by decide) ?_
        exact r_zret C hZ (u := ()) (by decide) h rfl dX1_isKnown_28
def rmX1_breaking : Room := { frames := 0, cells := 0, slots := 0, locals := 0 }
theorem kwX1_breaking_0 : Cond.fieldLink RX1 20 "WantsBench$Law" "sort" "I" ∈ wsX1_breaking := by decide +kernel
theorem uwX1_breaking_1 : ∀ w ∈ wsX10, w ∈ wsX1_breaking := by decide +kernel
theorem kwX1_breaking_2 : Cond.fieldLink RX1 33 "WantsBench$Law" "second" "J" ∈ wsX1_breaking := by decide +kernel
theorem kwX1_breaking_3 : Cond.constantLong RX1 52 (-1) ∈ wsX1_breaking := by decide +kernel
theorem kwX1_breaking_4 : Cond.fieldLink RX1 29 "WantsBench$Law" "first" "J" ∈ wsX1_breaking := by decide +kernel
def fX1_breaking (N : Nat) (L : RS) (v1 : Int32) (v2 : Int32) (Q : Int64 → Prop) : Prop :=
  ((¬ (L.1 0) = 0 → ((¬ (L.1 0) = 2 → ((¬ v1 = 0 → ((¬ v1 = 1 → Q 0) ∧ (v1 = 1 → Q ((L.2.2.1 3) ^^^ (-1 : Int64))))) ∧ (v1 = 0 → ((¬ v2 = 0 → Q 0) ∧ (v2 = 0 → Q ((L.2.2.1 2) &&& ((L.2.2.1 3) ^^^ (-1 : Int64)))))))) ∧ ((L.1 0) = 2 → ((v1 ≤ 0 → Q 0) ∧ (¬ v1 ≤ 0 → Q ((L.2.2.1 3) ^^^ (-1 : Int64))))))) ∧ ((L.1 0) = 0 → Q (L.2.2.1 2)))
set_option maxRecDepth 100000 in
set_option maxHeartbeats 4000000 in
theorem tX1_breaking (l : Launch) (g : Gx) (q : Nat) (L : RS) (N : Nat) (v1 : Int32) (v2 : Int32) (Q : Int64 → Prop) (h : fX1_breaking N L v1 v2 Q) : MetG l g yX1_breaking wsX1_breaking rmX1_breaking [.ref q, .int v1, .int v2] ([(q, lawE L)]) (fun _ : Unit => [(q, lawE L)]) (qL (fun (r : Int64) (_ : Unit) => Q r)) 0 0 := by
  refine met_of (cc := cX1_breaking) (own := RX1) (nL := 3) (ret := (some .long)) (lv := [(0, .ref q), (1, .int v1), (2, .int v2)]) (by decide) rfl rfl (Nat.le_of_ble_eq_true rfl) rfl ?_
  intro x C hl hZ
  subst hl
  unfold fX1_breaking at h
  refine r_aload_n C dX1_breaking_0 rfl ?_
  refine r_get (cn := RX1) (T := TX1) (N := 11) (ci := 1) C uwX1_breaking_1 0 rfl rfl 0 (by decide) kwX1_breaking_0 (v := .int (L.1 0)) rfl dX1_breaking_1 ?_
  refine r_if_ne (tgt := 12) C dX1_breaking_4 (by decide) (fun c1 => ?_) (fun c1 => ?_)
  · have h := h.1 c1
    refine r_aload_n C dX1_breaking_12 rfl ?_
    refine r_get (cn := RX1) (T := TX1) (N := 11) (ci := 1) C uwX1_breaking_1 0 rfl rfl 0 (by decide) kwX1_breaking_0 (v := .int (L.1 0)) rfl dX1_breaking_13 ?_
    refine r_iconst (v := 2) C dX1_breaking_16 (by decide) ?_
    refine r_icmp_ne (tgt := 37) C dX1_breaking_17 (by decide) (fun c2 => ?_) (fun c2 => ?_)
    · have h := h.1 c2
      refine r_iload_n C dX1_breaking_37 rfl ?_
      refine r_if_ne (tgt := 63) C dX1_breaking_38 (by decide) (fun c3 => ?_) (fun c3 => ?_)
      · have h := h.1 c3
        refine r_iload_n C dX1_breaking_63 rfl ?_
        refine r_iconst (v := 1) C dX1_breaking_64 (by decide) ?_
        refine r_icmp_ne (tgt := 79) C dX1_breaking_65 (by decide) (fun c4 => ?_) (fun c4 => ?_)
        · have h := h.1 c4
          refine r_lconst (v := 0) C dX1_breaking_79 (by decide) ?_
          exact r_lret C hZ (u := ()) h rfl dX1_breaking_80
        · have h := h.2 c4
          refine r_aload_n C dX1_breaking_68 rfl ?_
          refine r_get (cn := RX1) (T := TX1) (N := 11) (ci := 1) C uwX1_breaking_1 0 rfl rfl 3 (by decide) kwX1_breaking_2 (v := .long (L.2.2.1 3)) rfl dX1_breaking_69 ?_
          refine r_ldc2 C kwX1_breaking_3 dX1_breaking_72 ?_
          refine r_lxor C dX1_breaking_75 ?_
          refine r_goto (tgt := 80) C dX1_breaking_76 (by decide) ?_
          exact r_lret C hZ (u := ()) h rfl dX1_breaking_80
      · have h := h.2 c3
        refine r_iload_n C dX1_breaking_41 rfl ?_
        refine r_if_ne (tgt := 61) C dX1_breaking_42 (by decide) (fun c5 => ?_) (fun c5 => ?_)
        · have h := h.1 c5
          refine r_lconst (v := 0) C dX1_breaking_61 (by decide) ?_
          exact r_lret C hZ (u := ()) h rfl dX1_breaking_62
        · have h := h.2 c5
          refine r_aload_n C dX1_breaking_45 rfl ?_
          refine r_get (cn := RX1) (T := TX1) (N := 11) (ci := 1) C uwX1_breaking_1 0 rfl rfl 2 (by decide) kwX1_breaking_4 (v := .long (L.2.2.1 2)) rfl dX1_breaking_46 ?_
          refine r_aload_n C dX1_breaking_49 rfl ?_
          refine r_get (cn := RX1) (T := TX1) (N := 11) (ci := 1) C uwX1_breaking_1 0 rfl rfl 3 (by decide) kwX1_breaking_2 (v := .long (L.2.2.1 3)) rfl dX1_breaking_50 ?_
          refine r_ldc2 C kwX1_breaking_3 dX1_breaking_53 ?_
          refine r_lxor C dX1_breaking_56 ?_
          refine r_land C dX1_breaking_57 ?_
          refine r_goto (tgt := 62) C dX1_breaking_58 (by decide) ?_
          exact r_lret C hZ (u := ()) h rfl dX1_breaking_62
    · have h := h.2 c2
      refine r_iload_n C dX1_breaking_20 rfl ?_
      refine r_if_le (tgt := 35) C dX1_breaking_21 (by decide) (fun c6 => ?_) (fun c6 => ?_)
      · have h := h.1 c6
        refine r_lconst (v := 0) C dX1_breaking_35 (by decide) ?_
        exact r_lret C hZ (u := ()) h rfl dX1_breaking_36
      · have h := h.2 c6
        refine r_aload_n C dX1_breaking_24 rfl ?_
        refine r_get (cn := RX1) (T := TX1) (N := 11) (ci := 1) C uwX1_breaking_1 0 rfl rfl 3 (by decide) kwX1_breaking_2 (v := .long (L.2.2.1 3)) rfl dX1_breaking_25 ?_
        refine r_ldc2 C kwX1_breaking_3 dX1_breaking_28 ?_
        refine r_lxor C dX1_breaking_31 ?_
        refine r_goto (tgt := 36) C dX1_breaking_32 (by decide) ?_
        exact r_lret C hZ (u := ()) h rfl dX1_breaking_36
  · have h := h.2 c1
    refine r_aload_n C dX1_breaking_7 rfl ?_
    refine r_get (cn := RX1) (T := TX1) (N := 11) (ci := 1) C uwX1_breaking_1 0 rfl rfl 2 (by decide) kwX1_breaking_4 (v := .long (L.2.2.1 2)) rfl dX1_breaking_8 ?_
    exact r_lret C hZ (u := ()) h rfl dX1_breaking_11
def rmX1_turning : Room := { frames := 0, cells := 0, slots := 0, locals := 0 }
theorem kwX1_turning_0 : Cond.fieldLink RX1 20 "WantsBench$Law" "sort" "I" ∈ wsX1_turning := by decide +kernel
theorem uwX1_turning_1 : ∀ w ∈ wsX10, w ∈ wsX1_turning := by decide +kernel
theorem kwX1_turning_2 : Cond.fieldLink RX1 33 "WantsBench$Law" "second" "J" ∈ wsX1_turning := by decide +kernel
theorem kwX1_turning_3 : Cond.fieldLink RX1 29 "WantsBench$Law" "first" "J" ∈ wsX1_turning := by decide +kernel
theorem kwX1_turning_4 : Cond.constantLong RX1 52 (-1) ∈ wsX1_turning := by decide +kernel
def fX1_turning (N : Nat) (L : RS) (v1 : Int32) (Q : Int64 → Prop) : Prop :=
  ((¬ (L.1 0) = 0 → ((¬ (L.1 0) = 2 → ((¬ v1 = 0 → Q (L.2.2.1 3)) ∧ (v1 = 0 → Q ((L.2.2.1 2) &&& ((L.2.2.1 3) ^^^ (-1 : Int64)))))) ∧ ((L.1 0) = 2 → Q (L.2.2.1 2)))) ∧ ((L.1 0) = 0 → Q 0))
set_option maxRecDepth 100000 in
set_option maxHeartbeats 4000000 in
theorem tX1_turning (l : Launch) (g : Gx) (q : Nat) (L : RS) (N : Nat) (v1 : Int32) (Q : Int64 → Prop) (h : fX1_turning N L v1 Q) : MetG l g yX1_turning wsX1_turning rmX1_turning [.ref q, .int v1] ([(q, lawE L)]) (fun _ : Unit => [(q, lawE L)]) (qL (fun (r : Int64) (_ : Unit) => Q r)) 0 0 := by
  refine met_of (cc := cX1_turning) (own := RX1) (nL := 2) (ret := (some .long)) (lv := [(0, .ref q), (1, .int v1)]) (by decide) rfl rfl (Nat.le_of_ble_eq_true rfl) rfl ?_
  intro x C hl hZ
  subst hl
  unfold fX1_turning at h
  refine r_aload_n C dX1_turning_0 rfl ?_
  refine r_get (cn := RX1) (T := TX1) (N := 11) (ci := 1) C uwX1_turning_1 0 rfl rfl 0 (by decide) kwX1_turning_0 (v := .int (L.1 0)) rfl dX1_turning_1 ?_
  refine r_if_ne (tgt := 9) C dX1_turning_4 (by decide) (fun c1 => ?_) (fun c1 => ?_)
  · have h := h.1 c1
    refine r_aload_n C dX1_turning_9 rfl ?_
    refine r_get (cn := RX1) (T := TX1) (N := 11) (ci := 1) C uwX1_turning_1 0 rfl rfl 0 (by decide) kwX1_turning_0 (v := .int (L.1 0)) rfl dX1_turning_10 ?_
    refine r_iconst (v := 2) C dX1_turning_13 (by decide) ?_
    refine r_icmp_ne (tgt := 22) C dX1_turning_14 (by decide) (fun c2 => ?_) (fun c2 => ?_)
    · have h := h.1 c2
      refine r_iload_n C dX1_turning_22 rfl ?_
      refine r_if_ne (tgt := 42) C dX1_turning_23 (by decide) (fun c3 => ?_) (fun c3 => ?_)
      · have h := h.1 c3
        refine r_aload_n C dX1_turning_42 rfl ?_
        refine r_get (cn := RX1) (T := TX1) (N := 11) (ci := 1) C uwX1_turning_1 0 rfl rfl 3 (by decide) kwX1_turning_2 (v := .long (L.2.2.1 3)) rfl dX1_turning_43 ?_
        exact r_lret C hZ (u := ()) h rfl dX1_turning_46
      · have h := h.2 c3
        refine r_aload_n C dX1_turning_26 rfl ?_
        refine r_get (cn := RX1) (T := TX1) (N := 11) (ci := 1) C uwX1_turning_1 0 rfl rfl 2 (by decide) kwX1_turning_3 (v := .long (L.2.2.1 2)) rfl dX1_turning_27 ?_
        refine r_aload_n C dX1_turning_30 rfl ?_
        refine r_get (cn := RX1) (T := TX1) (N := 11) (ci := 1) C uwX1_turning_1 0 rfl rfl 3 (by decide) kwX1_turning_2 (v := .long (L.2.2.1 3)) rfl dX1_turning_31 ?_
        refine r_ldc2 C kwX1_turning_4 dX1_turning_34 ?_
        refine r_lxor C dX1_turning_37 ?_
        refine r_land C dX1_turning_38 ?_
        refine r_goto (tgt := 46) C dX1_turning_39 (by decide) ?_
        exact r_lret C hZ (u := ()) h rfl dX1_turning_46
    · have h := h.2 c2
      refine r_aload_n C dX1_turning_17 rfl ?_
      refine r_get (cn := RX1) (T := TX1) (N := 11) (ci := 1) C uwX1_turning_1 0 rfl rfl 2 (by decide) kwX1_turning_3 (v := .long (L.2.2.1 2)) rfl dX1_turning_18 ?_
      exact r_lret C hZ (u := ()) h rfl dX1_turning_21
  · have h := h.2 c1
    refine r_lconst (v := 0) C dX1_turning_7 (by decide) ?_
    exact r_lret C hZ (u := ()) h rfl dX1_turning_8
def rmX1_turned : Room := { frames := 1, cells := 0, slots := 0, locals := 30 }
theorem kwX1_turned_0 : Cond.fieldLink RX1 20 "WantsBench$Law" "sort" "I" ∈ wsX1_turned := by decide +kernel
theorem uwX1_turned_1 : ∀ w ∈ wsX10, w ∈ wsX1_turned := by decide +kernel
theorem kwX1_turned_2 : Cond.methodLink RX1 54 Lib.Math.max.name ∈ wsX1_turned := by decide +kernel
theorem kwX1_turned_3 : Cond.static Lib.Math.max.name ∈ wsX1_turned := by decide +kernel
theorem kwX1_turned_4 : Cond.initialized "java/lang/Math" ∈ wsX1_turned := by decide +kernel
theorem kwX1_turned_5 : Cond.code Lib.Math.max.name Lib.Math.max.code 2 (some .int) ∈ wsX1_turned := by decide +kernel
def fX1_turned (N : Nat) (L : RS) (v1 : Int32) (v2 : Int32) (Q : Int32 → Prop) : Prop :=
  ((¬ (L.1 0) = 0 → ((¬ (L.1 0) = 2 → ((¬ v1 = 0 → Q 0) ∧ (v1 = 0 → Q v2))) ∧ ((L.1 0) = 2 → Q (if v1 - (1 : Int32) < v2 then v2 else v1 - (1 : Int32))))) ∧ ((L.1 0) = 0 → Q v1))
set_option maxRecDepth 100000 in
set_option maxHeartbeats 4000000 in
theorem tX1_turned (l : Launch) (g : Gx) (q : Nat) (L : RS) (N : Nat) (v1 : Int32) (v2 : Int32) (Q : Int32 → Prop) (h : fX1_turned N L v1 v2 Q) : MetG l g yX1_turned wsX1_turned rmX1_turned [.ref q, .int v1, .int v2] ([(q, lawE L)]) (fun _ : Unit => [(q, lawE L)]) (qI (fun (r : Int32) (_ : Unit) => Q r)) 0 0 := by
  refine met_of (cc := cX1_turned) (own := RX1) (nL := 3) (ret := (some .int)) (lv := [(0, .ref q), (1, .int v1), (2, .int v2)]) (by decide) rfl rfl (Nat.le_of_ble_eq_true rfl) rfl ?_
  intro x C hl hZ
  subst hl
  unfold fX1_turned at h
  refine r_aload_n C dX1_turned_0 rfl ?_
  refine r_get (cn := RX1) (T := TX1) (N := 11) (ci := 1) C uwX1_turned_1 0 rfl rfl 0 (by decide) kwX1_turned_0 (v := .int (L.1 0)) rfl dX1_turned_1 ?_
  refine r_if_ne (tgt := 9) C dX1_turned_4 (by decide) (fun c1 => ?_) (fun c1 => ?_)
  · have h := h.1 c1
    refine r_aload_n C dX1_turned_9 rfl ?_
    refine r_get (cn := RX1) (T := TX1) (N := 11) (ci := 1) C uwX1_turned_1 0 rfl rfl 0 (by decide) kwX1_turned_0 (v := .int (L.1 0)) rfl dX1_turned_10 ?_
    refine r_iconst (v := 2) C dX1_turned_13 (by decide) ?_
    refine r_icmp_ne (tgt := 25) C dX1_turned_14 (by decide) (fun c2 => ?_) (fun c2 => ?_)
    · have h := h.1 c2
      refine r_iload_n C dX1_turned_25 rfl ?_
      refine r_if_ne (tgt := 33) C dX1_turned_26 (by decide) (fun c3 => ?_) (fun c3 => ?_)
      · have h := h.1 c3
        refine r_iconst (v := 0) C dX1_turned_33 (by decide) ?_
        exact r_iret C hZ (u := ()) h rfl dX1_turned_34
      · have h := h.2 c3
        refine r_iload_n C dX1_turned_29 rfl ?_
        refine r_goto (tgt := 34) C dX1_turned_30 (by decide) ?_
        exact r_iret C hZ (u := ()) h rfl dX1_turned_34
    · have h := h.2 c2
      refine r_iload_n C dX1_turned_17 rfl ?_
      refine r_iconst (v := 1) C dX1_turned_18 (by decide) ?_
      refine r_isub C dX1_turned_19 ?_
      refine r_iload_n C dX1_turned_20 rfl ?_
      refine r_mmax C kwX1_turned_2 kwX1_turned_3 kwX1_turned_4 kwX1_turned_5 (Nat.le_of_ble_eq_true rfl) (Nat.le_of_ble_eq_true rfl) (Nat.le_of_ble_eq_true rfl) (Nat.le_of_ble_eq_true rfl) dX1_turned_21 ?_
      exact r_iret C hZ (u := ()) h rfl dX1_turned_24
  · have h := h.2 c1
    refine r_iload_n C dX1_turned_7 rfl ?_
    exact r_iret C hZ (u := ()) h rfl dX1_turned_8
def rmX1_runOn : Room := { frames := 1, cells := 0, slots := 0, locals := 30 }
theorem kwX1_runOn_0 : Cond.fieldLink RX1 20 "WantsBench$Law" "sort" "I" ∈ wsX1_runOn := by decide +kernel
theorem uwX1_runOn_1 : ∀ w ∈ wsX10, w ∈ wsX1_runOn := by decide +kernel
theorem kwX1_runOn_2 : Cond.methodLink RX1 54 Lib.Math.max.name ∈ wsX1_runOn := by decide +kernel
theorem kwX1_runOn_3 : Cond.static Lib.Math.max.name ∈ wsX1_runOn := by decide +kernel
theorem kwX1_runOn_4 : Cond.initialized "java/lang/Math" ∈ wsX1_runOn := by decide +kernel
theorem kwX1_runOn_5 : Cond.code Lib.Math.max.name Lib.Math.max.code 2 (some .int) ∈ wsX1_runOn := by decide +kernel
def fX1_runOn (N : Nat) (L : RS) (v1 : Int32) (Q : Int32 → Prop) : Prop :=
  ((¬ (L.1 0) = 0 → Q (if v1 - (1 : Int32) < 0 then 0 else v1 - (1 : Int32))) ∧ ((L.1 0) = 0 → Q v1))
set_option maxRecDepth 100000 in
set_option maxHeartbeats 4000000 in
theorem tX1_runOn (l : Launch) (g : Gx) (q : Nat) (L : RS) (N : Nat) (v1 : Int32) (Q : Int32 → Prop) (h : fX1_runOn N L v1 Q) : MetG l g yX1_runOn wsX1_runOn rmX1_runOn [.ref q, .int v1] ([(q, lawE L)]) (fun _ : Unit => [(q, lawE L)]) (qI (fun (r : Int32) (_ : Unit) => Q r)) 0 0 := by
  refine met_of (cc := cX1_runOn) (own := RX1) (nL := 2) (ret := (some .int)) (lv := [(0, .ref q), (1, .int v1)]) (by decide) rfl rfl (Nat.le_of_ble_eq_true rfl) rfl ?_
  intro x C hl hZ
  subst hl
  unfold fX1_runOn at h
  refine r_aload_n C dX1_runOn_0 rfl ?_
  refine r_get (cn := RX1) (T := TX1) (N := 11) (ci := 1) C uwX1_runOn_1 0 rfl rfl 0 (by decide) kwX1_runOn_0 (v := .int (L.1 0)) rfl dX1_runOn_1 ?_
  refine r_if_ne (tgt := 11) C dX1_runOn_4 (by decide) (fun c1 => ?_) (fun c1 => ?_)
  · have h := h.1 c1
    refine r_iload_n C dX1_runOn_11 rfl ?_
    refine r_iconst (v := 1) C dX1_runOn_12 (by decide) ?_
    refine r_isub C dX1_runOn_13 ?_
    refine r_iconst (v := 0) C dX1_runOn_14 (by decide) ?_
    refine r_mmax C kwX1_runOn_2 kwX1_runOn_3 kwX1_runOn_4 kwX1_runOn_5 (Nat.le_of_ble_eq_true rfl) (Nat.le_of_ble_eq_true rfl) (Nat.le_of_ble_eq_true rfl) (Nat.le_of_ble_eq_true rfl) dX1_runOn_15 ?_
    exact r_iret C hZ (u := ()) h rfl dX1_runOn_18
  · have h := h.2 c1
    refine r_iload_n C dX1_runOn_7 rfl ?_
    refine r_goto (tgt := 18) C dX1_runOn_8 (by decide) ?_
    exact r_iret C hZ (u := ()) h rfl dX1_runOn_18
def rmX1_after : Room := { frames := 2, cells := 0, slots := 0, locals := 52 }
theorem kwX1_after_0 : Cond.fieldLink RX1 24 "WantsBench$Law" "n" "I" ∈ wsX1_after := by decide +kernel
theorem uwX1_after_1 : ∀ w ∈ wsX10, w ∈ wsX1_after := by decide +kernel
def fX1_after (N : Nat) (L : RS) (v1 : Int32) (v2 : Int32) (Q : Int32 → Prop) : Prop :=
  (fX1_breaking N L v1 (L.1 1) (fun r1 => (fX1_has N r1 v2 (fun r2 => ((r2 = 0 → (fX1_turning N L v1 (fun r4 => (fX1_has N r4 v2 (fun r5 => ((r5 = 0 → (fX1_runOn N L v1 (fun r7 => Q r7))) ∧ (¬ r5 = 0 → (fX1_turned N L v1 (L.1 1) (fun r8 => Q r8))))))))) ∧ (¬ r2 = 0 → Q (-1)))))))
set_option maxRecDepth 100000 in
set_option maxHeartbeats 4000000 in
theorem tX1_after (l : Launch) (g : Gx) (q : Nat) (L : RS) (N : Nat) (v1 : Int32) (v2 : Int32) (Q : Int32 → Prop) (h : fX1_after N L v1 v2 Q) : MetG l g yX1_after wsX1_after rmX1_after [.ref q, .int v1, .int v2] ([(q, lawE L)]) (fun _ : Unit => [(q, lawE L)]) (qI (fun (r : Int32) (_ : Unit) => Q r)) 0 0 := by
  refine met_of (cc := cX1_after) (own := RX1) (nL := 3) (ret := (some .int)) (lv := [(0, .ref q), (1, .int v1), (2, .int v2)]) (by decide) rfl rfl (Nat.le_of_ble_eq_true rfl) rfl ?_
  intro x C hl hZ
  subst hl
  unfold fX1_after at h
  refine r_aload_n C dX1_after_0 rfl ?_
  refine r_iload_n C dX1_after_1 rfl ?_
  refine r_aload_n C dX1_after_2 rfl ?_
  refine r_get (cn := RX1) (T := TX1) (N := 11) (ci := 1) C uwX1_after_1 0 rfl rfl 1 (by decide) kwX1_after_0 (v := .int (L.1 1)) rfl dX1_after_3 ?_
  refine callR_L C (run_V (As := [.int v1, .int (L.1 1)]) (rest := []) (ci := 1) C hZ.2.2 (tX1_breaking _ g q L N v1 (L.1 1) _ h) gX1_after_X1_breaking rfl dsX1_breaking rfl rfl ⟨(Nat.le_of_ble_eq_true rfl), (Nat.le_of_ble_eq_true rfl)⟩ rfl (List.mem_of_getElem? (i := 0) rfl) rfl (Nat.le_of_ble_eq_true rfl) dX1_after_6 ⟨Nat.zero_le _, Nat.zero_le _⟩) (List.Sublist.refl _) (fun _ => rfl) (fun r1 _ h => ?_)
  refine r_iload_n C dX1_after_9 rfl ?_
  refine callR_I C (run_S (As := [.long r1, .int v2]) (rest := []) C hZ.2.2 (tX1_has _ g N r1 v2 _ h) gX1_after_X1_has rfl dsX1_has rfl rfl ⟨(Nat.le_of_ble_eq_true rfl), (Nat.le_of_ble_eq_true rfl)⟩ rfl (Nat.le_of_ble_eq_true rfl) dX1_after_10 ⟨Nat.zero_le _, Nat.zero_le _⟩) (List.nil_sublist _) (fun _ => rfl) (fun r2 _ h => ?_)
  refine r_if_eq (tgt := 18) C dX1_after_13 (by decide) (fun c3 => ?_) (fun c3 => ?_)
  · have h := h.1 c3
    refine r_aload_n C dX1_after_18 rfl ?_
    refine r_iload_n C dX1_after_19 rfl ?_
    refine callR_L C (run_V (As := [.int v1]) (rest := []) (ci := 1) C hZ.2.2 (tX1_turning _ g q L N v1 _ h) gX1_after_X1_turning rfl dsX1_turning rfl rfl ⟨(Nat.le_of_ble_eq_true rfl), (Nat.le_of_ble_eq_true rfl)⟩ rfl (List.mem_of_getElem? (i := 0) rfl) rfl (Nat.le_of_ble_eq_true rfl) dX1_after_20 ⟨Nat.zero_le _, Nat.zero_le _⟩) (List.Sublist.refl _) (fun _ => rfl) (fun r4 _ h => ?_)
    refine r_iload_n C dX1_after_23 rfl ?_
    refine callR_I C (run_S (As := [.long r4, .int v2]) (rest := []) C hZ.2.2 (tX1_has _ g N r4 v2 _ h) gX1_after_X1_has rfl dsX1_has rfl rfl ⟨(Nat.le_of_ble_eq_true rfl), (Nat.le_of_ble_eq_true rfl)⟩ rfl (Nat.le_of_ble_eq_true rfl) dX1_after_24 ⟨Nat.zero_le _, Nat.zero_le _⟩) (List.nil_sublist _) (fun _ => rfl) (fun r5 _ h => ?_)
    refine r_if_eq (tgt := 42) C dX1_after_27 (by decide) (fun c6 => ?_) (fun c6 => ?_)
    · have h := h.1 c6
      refine r_aload_n C dX1_after_42 rfl ?_
      refine r_iload_n C dX1_after_43 rfl ?_
      refine callR_I C (run_V (As := [.int v1]) (rest := []) (ci := 1) C hZ.2.2 (tX1_runOn _ g q L N v1 _ h) gX1_after_X1_runOn rfl dsX1_runOn rfl rfl ⟨(Nat.le_of_ble_eq_true rfl), (Nat.le_of_ble_eq_true rfl)⟩ rfl (List.mem_of_getElem? (i := 0) rfl) rfl (Nat.le_of_ble_eq_true rfl) dX1_after_44 ⟨Nat.zero_le _, Nat.zero_le _⟩) (List.Sublist.refl _) (fun _ => rfl) (fun r7 _ h => ?_)
      exact r_iret C hZ (u := ()) h rfl dX1_after_47
    · have h := h.2 c6
      refine r_aload_n C dX1_after_30 rfl ?_
      refine r_iload_n C dX1_after_31 rfl ?_
      refine r_aload_n C dX1_after_32 rfl ?_
      refine r_get (cn := RX1) (T := TX1) (N := 11) (ci := 1) C uwX1_after_1 0 rfl rfl 1 (by decide) kwX1_after_0 (v := .int (L.1 1)) rfl dX1_after_33 ?_
      refine callR_I C (run_V (As := [.int v1, .int (L.1 1)]) (rest := []) (ci := 1) C hZ.2.2 (tX1_turned _ g q L N v1 (L.1 1) _ h) gX1_after_X1_turned rfl dsX1_turned rfl rfl ⟨(Nat.le_of_ble_eq_true rfl), (Nat.le_of_ble_eq_true rfl)⟩ rfl (List.mem_of_getElem? (i := 0) rfl) rfl (Nat.le_of_ble_eq_true rfl) dX1_after_36 ⟨Nat.zero_le _, Nat.zero_le _⟩) (List.Sublist.refl _) (fun _ => rfl) (fun r8 _ h => ?_)
      refine r_goto (tgt := 47) C dX1_after_39 (by decide) ?_
      exact r_iret C hZ (u := ()) h rfl dX1_after_47
  · have h := h.2 c3
    refine r_iconst (v := (-1)) C dX1_after_16 (by decide) ?_
    exact r_iret C hZ (u := ()) h rfl dX1_after_17
def rmX1_firstBroken : Room := { frames := 3, cells := 0, slots := 0, locals := 74 }
def fX1_firstBroken_5b (N : Nat) (f : Nat → Int32) (L : RS) (v2 : Int32) (v3 : Int32) (v4 : Int32) (R : Int32 → Int32 → Prop) (K : Prop) (Q : Int32 → Prop) : Prop :=
  ((v2 ≤ v4 → K) ∧ (¬ v2 ≤ v4 → ((200 ≤ v4 → K) ∧ (¬ 200 ≤ v4 → (vp_in v4 200 ∧ (fX1_after N L v3 (f v4.toNatClampNeg) (fun r4 => ((¬ r4 = (-1) → (∀ x6 : Int32, x6 = v4 + 1 → R r4 x6)) ∧ (r4 = (-1) → Q v4)))))))))
set_option maxRecDepth 100000 in
set_option maxHeartbeats 4000000 in
theorem wfX1_firstBroken_5b {x : Nx} {g : Gx} {W0 : va_W} {q : Nat} {r : Nat} {f : Nat → Int32} {L : RS} {N : Nat} {v2 : Int32} {v3 : Int32} {v4 : Int32} {R : Int32 → Int32 → Prop} {K : Prop} {Q : Int32 → Prop} (C : Cx x g cX1_firstBroken RX1 wsX1_firstBroken rmX1_firstBroken yX1_firstBroken (some .int) 5) (hZ : Zq x g W0 (fun _ : Unit => [(r, .inl (g.2 3, 200, .inl f)), (q, lawE L)]) (qI (fun (r : Int32) (_ : Unit) => Q r)) 0 0) (hR : ∀ (w3 : Int32) (w4 : Int32), R w3 w4 → St x 0 0 ([(r, .inl (g.2 3, 200, .inl f)), (q, lawE L)]) [(0, .ref q), (1, .ref r), (2, .int v2), (3, .int w3), (4, .int w4)] [] 5) (hK : K → St x 0 0 ([(r, .inl (g.2 3, 200, .inl f)), (q, lawE L)]) [] [] 42) (h : fX1_firstBroken_5b N f L v2 v3 v4 R K Q) : St x 0 0 ([(r, .inl (g.2 3, 200, .inl f)), (q, lawE L)]) [(0, .ref q), (1, .ref r), (2, .int v2), (3, .int v3), (4, .int v4)] [] 5 := by
  unfold fX1_firstBroken_5b at h
  refine r_iload C dX1_firstBroken_5 rfl ?_
  refine r_iload_n C dX1_firstBroken_7 rfl ?_
  refine r_icmp_ge (tgt := 42) C dX1_firstBroken_8 (by decide) (fun c1 => ?_) (fun c1 => ?_)
  · have h := h.1 c1
    refine r_sub [] (lv' := []) rfl ?_
    exact hK h
  · have h := h.2 c1
    refine r_iload C dX1_firstBroken_11 rfl ?_
    refine r_aload_n C dX1_firstBroken_13 rfl ?_
    refine r_alen C 0 3 rfl rfl (v := 200) rfl dX1_firstBroken_14 ?_
    refine r_icmp_ge (tgt := 42) C dX1_firstBroken_15 (by decide) (fun c2 => ?_) (fun c2 => ?_)
    · have h := h.1 c2
      refine r_sub [] (lv' := []) rfl ?_
      exact hK h
    · have h := h.2 c2
      refine r_aload_n C dX1_firstBroken_18 rfl ?_
      refine r_iload_n C dX1_firstBroken_19 rfl ?_
      refine r_aload_n C dX1_firstBroken_20 rfl ?_
      refine r_iload C dX1_firstBroken_21 rfl ?_
      obtain ⟨hi3, h⟩ := h
      refine r_bald C 0 rfl hi3 dX1_firstBroken_23 ?_
      refine callR_I C (run_V (As := [.int v3, .int (f v4.toNatClampNeg)]) (rest := []) (ci := 1) C hZ.2.2 (tX1_after _ g q L N v3 (f v4.toNatClampNeg) _ h) gX1_firstBroken_X1_after rfl dsX1_after rfl rfl ⟨(Nat.le_of_ble_eq_true rfl), (Nat.le_of_ble_eq_true rfl)⟩ rfl (List.mem_of_getElem? (i := 1) rfl) rfl (Nat.le_of_ble_eq_true rfl) dX1_firstBroken_24 ⟨Nat.zero_le _, Nat.zero_le _⟩) (List.Sublist.cons _ (List.Sublist.refl _)) (fun _ => rfl) (fun r4 _ h => ?_)
      refine r_istore_n (lv' := [(0, .ref q), (1, .ref r), (2, .int v2), (3, .int r4), (4, .int v4)]) C dX1_firstBroken_27 [some 0, some 1, some 2, none, some 4] (by decide) rfl rfl ?_
      refine r_iload_n C dX1_firstBroken_28 rfl ?_
      refine r_iconst (v := (-1)) C dX1_firstBroken_29 (by decide) ?_
      refine r_icmp_ne (tgt := 36) C dX1_firstBroken_30 (by decide) (fun c5 => ?_) (fun c5 => ?_)
      · have h := h.1 c5
        obtain ⟨x6, ex6⟩ : ∃ z : Int32, z = v4 + 1 := ⟨_, rfl⟩
        have h := h x6 ex6
        refine r_iinc (v := x6) (lv' := [(0, .ref q), (1, .ref r), (2, .int v2), (3, .int r4), (4, .int x6)]) C dX1_firstBroken_36 rfl (by rw [ex6]; rfl) [some 0, some 1, some 2, some 3, none] (by decide) rfl rfl ?_
        refine r_goto (tgt := 5) C dX1_firstBroken_39 (by decide) ?_
        exact hR r4 x6 h
      · have h := h.2 c5
        refine r_iload C dX1_firstBroken_33 rfl ?_
        exact r_iret C hZ (u := ()) h rfl dX1_firstBroken_35
def fX1_firstBroken_5 (N : Nat) (f : Nat → Int32) (L : RS) (v2 : Int32) (K : Prop) (Q : Int32 → Prop) : Nat → Int32 → Int32 → Prop
  | 0, _, _ => False
  | n + 1, v3, v4 => fX1_firstBroken_5b N f L v2 v3 v4 (fun v3 v4 => fX1_firstBroken_5 N f L v2 K Q n v3 v4) K Q
set_option maxRecDepth 100000 in
set_option maxHeartbeats 4000000 in
theorem wfX1_firstBroken_5 {x : Nx} {g : Gx} {W0 : va_W} {q : Nat} {r : Nat} {f : Nat → Int32} {L : RS} {N : Nat} {v2 : Int32} {K : Prop} {Q : Int32 → Prop} (C : Cx x g cX1_firstBroken RX1 wsX1_firstBroken rmX1_firstBroken yX1_firstBroken (some .int) 5) (hZ : Zq x g W0 (fun _ : Unit => [(r, .inl (g.2 3, 200, .inl f)), (q, lawE L)]) (qI (fun (r : Int32) (_ : Unit) => Q r)) 0 0) (hK : K → St x 0 0 ([(r, .inl (g.2 3, 200, .inl f)), (q, lawE L)]) [] [] 42) : ∀ (n : Nat) (v3 : Int32) (v4 : Int32), fX1_firstBroken_5 N f L v2 K Q n v3 v4 → St x 0 0 ([(r, .inl (g.2 3, 200, .inl f)), (q, lawE L)]) [(0, .ref q), (1, .ref r), (2, .int v2), (3, .int v3), (4, .int v4)] [] 5 := by
  intro n
  induction n with
  | zero => intro v3 v4 h; exact False.elim h
  | succ n ih => intro v3 v4 h; exact wfX1_firstBroken_5b C hZ ih hK h
def fX1_firstBroken (N : Nat) (f : Nat → Int32) (L : RS) (v2 : Int32) (Q : Int32 → Prop) : Prop :=
  (fX1_firstBroken_5 N f L v2 (Q (-4)) Q N 0 0)
set_option maxRecDepth 100000 in
set_option maxHeartbeats 4000000 in
theorem tX1_firstBroken (l : Launch) (g : Gx) (q : Nat) (r : Nat) (f : Nat → Int32) (L : RS) (N : Nat) (v2 : Int32) (Q : Int32 → Prop) (h : fX1_firstBroken N f L v2 Q) : MetG l g yX1_firstBroken wsX1_firstBroken rmX1_firstBroken [.ref q, .ref r, .int v2] ([(r, .inl (g.2 3, 200, .inl f)), (q, lawE L)]) (fun _ : Unit => [(r, .inl (g.2 3, 200, .inl f)), (q, lawE L)]) (qI (fun (r : Int32) (_ : Unit) => Q r)) 0 0 := by
  refine met_of (cc := cX1_firstBroken) (own := RX1) (nL := 5) (ret := (some .int)) (lv := [(0, .ref q), (1, .ref r), (2, .int v2)]) (by decide) rfl rfl (Nat.le_of_ble_eq_true rfl) rfl ?_
  intro x C hl hZ
  subst hl
  unfold fX1_firstBroken at h
  refine r_iconst (v := 0) C dX1_firstBroken_0 (by decide) ?_
  refine r_istore_n (lv' := [(0, .ref q), (1, .ref r), (2, .int v2), (3, .int 0)]) C dX1_firstBroken_1 [some 0, some 1, some 2, none] (by decide) rfl rfl ?_
  refine r_iconst (v := 0) C dX1_firstBroken_2 (by decide) ?_
  refine r_istore (lv' := [(0, .ref q), (1, .ref r), (2, .int v2), (3, .int 0), (4, .int 0)]) C dX1_firstBroken_3 [some 0, some 1, some 2, some 3, none] (by decide) rfl rfl ?_
  refine wfX1_firstBroken_5 C hZ (fun h => ?_) N _ _ h
  refine r_bipush (v := (-4)) C dX1_firstBroken_42 (by decide) ?_
  exact r_iret C hZ (u := ()) h rfl dX1_firstBroken_44
def rmX1_eased : Room := { frames := 0, cells := 0, slots := 0, locals := 0 }
theorem kwX1_eased_0 : Cond.fieldLink RX1 20 "WantsBench$Law" "sort" "I" ∈ wsX1_eased := by decide +kernel
theorem uwX1_eased_1 : ∀ w ∈ wsX10, w ∈ wsX1_eased := by decide +kernel
theorem kwX1_eased_2 : Cond.fieldLink RX1 24 "WantsBench$Law" "n" "I" ∈ wsX1_eased := by decide +kernel
def fX1_eased (N : Nat) (L : RS) (v1 : Int32) (Q : Int32 → Prop) : Prop :=
  ((¬ (L.1 0) = 1 → Q ((L.1 1) - v1)) ∧ ((L.1 0) = 1 → Q ((L.1 1) + v1)))
set_option maxRecDepth 100000 in
set_option maxHeartbeats 4000000 in
theorem tX1_eased (l : Launch) (g : Gx) (q : Nat) (L : RS) (N : Nat) (v1 : Int32) (Q : Int32 → Prop) (h : fX1_eased N L v1 Q) : MetG l g yX1_eased wsX1_eased rmX1_eased [.ref q, .int v1] ([(q, lawE L)]) (fun _ : Unit => [(q, lawE L)]) (qI (fun (r : Int32) (_ : Unit) => Q r)) 0 0 := by
  refine met_of (cc := cX1_eased) (own := RX1) (nL := 2) (ret := (some .int)) (lv := [(0, .ref q), (1, .int v1)]) (by decide) rfl rfl (Nat.le_of_ble_eq_true rfl) rfl ?_
  intro x C hl hZ
  subst hl
  unfold fX1_eased at h
  refine r_aload_n C dX1_eased_0 rfl ?_
  refine r_get (cn := RX1) (T := TX1) (N := 11) (ci := 1) C uwX1_eased_1 0 rfl rfl 0 (by decide) kwX1_eased_0 (v := .int (L.1 0)) rfl dX1_eased_1 ?_
  refine r_iconst (v := 1) C dX1_eased_4 (by decide) ?_
  refine r_icmp_ne (tgt := 17) C dX1_eased_5 (by decide) (fun c1 => ?_) (fun c1 => ?_)
  · have h := h.1 c1
    refine r_aload_n C dX1_eased_17 rfl ?_
    refine r_get (cn := RX1) (T := TX1) (N := 11) (ci := 1) C uwX1_eased_1 0 rfl rfl 1 (by decide) kwX1_eased_2 (v := .int (L.1 1)) rfl dX1_eased_18 ?_
    refine r_iload_n C dX1_eased_21 rfl ?_
    refine r_isub C dX1_eased_22 ?_
    exact r_iret C hZ (u := ()) h rfl dX1_eased_23
  · have h := h.2 c1
    refine r_aload_n C dX1_eased_8 rfl ?_
    refine r_get (cn := RX1) (T := TX1) (N := 11) (ci := 1) C uwX1_eased_1 0 rfl rfl 1 (by decide) kwX1_eased_2 (v := .int (L.1 1)) rfl dX1_eased_9 ?_
    refine r_iload_n C dX1_eased_12 rfl ?_
    refine r_iadd C dX1_eased_13 ?_
    refine r_goto (tgt := 23) C dX1_eased_14 (by decide) ?_
    exact r_iret C hZ (u := ()) h rfl dX1_eased_23
def rmX1_allows : Room := { frames := 1, cells := 0, slots := 0, locals := 21 }
theorem kwX1_allows_0 : Cond.fieldLink RX1 20 "WantsBench$Law" "sort" "I" ∈ wsX1_allows := by decide +kernel
theorem uwX1_allows_1 : ∀ w ∈ wsX10, w ∈ wsX1_allows := by decide +kernel
def fX1_allows (N : Nat) (L : RS) (v1 : Int32) (Q : Int32 → Prop) : Prop :=
  ((v1 = 0 → Q 1) ∧ (¬ v1 = 0 → ((¬ v1 = 4 → (((L.1 0) = 0 → Q 0) ∧ (¬ (L.1 0) = 0 → (fX1_eased N L v1 (fun r4 => ((r4 < 0 → Q 0) ∧ (¬ r4 < 0 → (fX1_eased N L v1 (fun r6 => ((3 < r6 → Q 0) ∧ (¬ 3 < r6 → Q 1))))))))))) ∧ (v1 = 4 → Q 1))))
set_option maxRecDepth 100000 in
set_option maxHeartbeats 4000000 in
theorem tX1_allows (l : Launch) (g : Gx) (q : Nat) (L : RS) (N : Nat) (v1 : Int32) (Q : Int32 → Prop) (h : fX1_allows N L v1 Q) : MetG l g yX1_allows wsX1_allows rmX1_allows [.ref q, .int v1] ([(q, lawE L)]) (fun _ : Unit => [(q, lawE L)]) (qI (fun (r : Int32) (_ : Unit) => Q r)) 0 0 := by
  refine met_of (cc := cX1_allows) (own := RX1) (nL := 2) (ret := (some .boolean)) (lv := [(0, .ref q), (1, .int v1)]) (by decide) rfl rfl (Nat.le_of_ble_eq_true rfl) rfl ?_
  intro x C hl hZ
  subst hl
  unfold fX1_allows at h
  refine r_iload_n C dX1_allows_0 rfl ?_
  refine r_if_eq (tgt := 9) C dX1_allows_1 (by decide) (fun c1 => ?_) (fun c1 => ?_)
  · have h := h.1 c1
    refine r_iconst (v := 1) C dX1_allows_9 (by decide) ?_
    exact r_zret C hZ (u := ()) (by decide) h rfl dX1_allows_10
  · have h := h.2 c1
    refine r_iload_n C dX1_allows_4 rfl ?_
    refine r_iconst (v := 4) C dX1_allows_5 (by decide) ?_
    refine r_icmp_ne (tgt := 11) C dX1_allows_6 (by decide) (fun c2 => ?_) (fun c2 => ?_)
    · have h := h.1 c2
      refine r_aload_n C dX1_allows_11 rfl ?_
      refine r_get (cn := RX1) (T := TX1) (N := 11) (ci := 1) C uwX1_allows_1 0 rfl rfl 0 (by decide) kwX1_allows_0 (v := .int (L.1 0)) rfl dX1_allows_12 ?_
      refine r_if_eq (tgt := 39) C dX1_allows_15 (by decide) (fun c3 => ?_) (fun c3 => ?_)
      · have h := h.1 c3
        refine r_iconst (v := 0) C dX1_allows_39 (by decide) ?_
        exact r_zret C hZ (u := ()) (by decide) h rfl dX1_allows_40
      · have h := h.2 c3
        refine r_aload_n C dX1_allows_18 rfl ?_
        refine r_iload_n C dX1_allows_19 rfl ?_
        refine callR_I C (run_V (As := [.int v1]) (rest := []) (ci := 1) C hZ.2.2 (tX1_eased _ g q L N v1 _ h) gX1_allows_X1_eased rfl dsX1_eased rfl rfl ⟨(Nat.le_of_ble_eq_true rfl), (Nat.le_of_ble_eq_true rfl)⟩ rfl (List.mem_of_getElem? (i := 0) rfl) rfl (Nat.le_of_ble_eq_true rfl) dX1_allows_20 ⟨Nat.zero_le _, Nat.zero_le _⟩) (List.Sublist.refl _) (fun _ => rfl) (fun r4 _ h => ?_)
        refine r_if_lt (tgt := 39) C dX1_allows_23 (by decide) (fun c5 => ?_) (fun c5 => ?_)
        · have h := h.1 c5
          refine r_iconst (v := 0) C dX1_allows_39 (by decide) ?_
          exact r_zret C hZ (u := ()) (by decide) h rfl dX1_allows_40
        · have h := h.2 c5
          refine r_aload_n C dX1_allows_26 rfl ?_
          refine r_iload_n C dX1_allows_27 rfl ?_
          refine callR_I C (run_V (As := [.int v1]) (rest := []) (ci := 1) C hZ.2.2 (tX1_eased _ g q L N v1 _ h) gX1_allows_X1_eased rfl dsX1_eased rfl rfl ⟨(Nat.le_of_ble_eq_true rfl), (Nat.le_of_ble_eq_true rfl)⟩ rfl (List.mem_of_getElem? (i := 0) rfl) rfl (Nat.le_of_ble_eq_true rfl) dX1_allows_28 ⟨Nat.zero_le _, Nat.zero_le _⟩) (List.Sublist.refl _) (fun _ => rfl) (fun r6 _ h => ?_)
          refine r_iconst (v := 3) C dX1_allows_31 (by decide) ?_
          refine r_icmp_gt (tgt := 39) C dX1_allows_32 (by decide) (fun c7 => ?_) (fun c7 => ?_)
          · have h := h.1 c7
            refine r_iconst (v := 0) C dX1_allows_39 (by decide) ?_
            exact r_zret C hZ (u := ()) (by decide) h rfl dX1_allows_40
          · have h := h.2 c7
            refine r_iconst (v := 1) C dX1_allows_35 (by decide) ?_
            refine r_goto (tgt := 40) C dX1_allows_36 (by decide) ?_
            exact r_zret C hZ (u := ()) (by decide) h rfl dX1_allows_40
    · have h := h.2 c2
      refine r_iconst (v := 1) C dX1_allows_9 (by decide) ?_
      exact r_zret C hZ (u := ()) (by decide) h rfl dX1_allows_10
def rmX1_priceOf : Room := { frames := 0, cells := 0, slots := 0, locals := 0 }
theorem kwX1_priceOf_0 : Cond.fieldLink RX1 46 "WantsBench$Law" "ease" "I" ∈ wsX1_priceOf := by decide +kernel
theorem uwX1_priceOf_1 : ∀ w ∈ wsX10, w ∈ wsX1_priceOf := by decide +kernel
theorem kwX1_priceOf_2 : Cond.fieldLink RX1 43 "WantsBench$Law" "worth" "I" ∈ wsX1_priceOf := by decide +kernel
def fX1_priceOf (N : Nat) (L : RS) (v1 : Int32) (Q : Int32 → Prop) : Prop :=
  ((¬ v1 = 4 → Q ((L.1 7) * v1)) ∧ (v1 = 4 → Q (L.1 6)))
set_option maxRecDepth 100000 in
set_option maxHeartbeats 4000000 in
theorem tX1_priceOf (l : Launch) (g : Gx) (q : Nat) (L : RS) (N : Nat) (v1 : Int32) (Q : Int32 → Prop) (h : fX1_priceOf N L v1 Q) : MetG l g yX1_priceOf wsX1_priceOf rmX1_priceOf [.ref q, .int v1] ([(q, lawE L)]) (fun _ : Unit => [(q, lawE L)]) (qI (fun (r : Int32) (_ : Unit) => Q r)) 0 0 := by
  refine met_of (cc := cX1_priceOf) (own := RX1) (nL := 2) (ret := (some .int)) (lv := [(0, .ref q), (1, .int v1)]) (by decide) rfl rfl (Nat.le_of_ble_eq_true rfl) rfl ?_
  intro x C hl hZ
  subst hl
  unfold fX1_priceOf at h
  refine r_iload_n C dX1_priceOf_0 rfl ?_
  refine r_iconst (v := 4) C dX1_priceOf_1 (by decide) ?_
  refine r_icmp_ne (tgt := 12) C dX1_priceOf_2 (by decide) (fun c1 => ?_) (fun c1 => ?_)
  · have h := h.1 c1
    refine r_aload_n C dX1_priceOf_12 rfl ?_
    refine r_get (cn := RX1) (T := TX1) (N := 11) (ci := 1) C uwX1_priceOf_1 0 rfl rfl 7 (by decide) kwX1_priceOf_0 (v := .int (L.1 7)) rfl dX1_priceOf_13 ?_
    refine r_iload_n C dX1_priceOf_16 rfl ?_
    refine r_imul C dX1_priceOf_17 ?_
    exact r_iret C hZ (u := ()) h rfl dX1_priceOf_18
  · have h := h.2 c1
    refine r_aload_n C dX1_priceOf_5 rfl ?_
    refine r_get (cn := RX1) (T := TX1) (N := 11) (ci := 1) C uwX1_priceOf_1 0 rfl rfl 6 (by decide) kwX1_priceOf_2 (v := .int (L.1 6)) rfl dX1_priceOf_6 ?_
    refine r_goto (tgt := 18) C dX1_priceOf_9 (by decide) ?_
    exact r_iret C hZ (u := ()) h rfl dX1_priceOf_18
def rmX3_take : Room := { frames := 0, cells := 0, slots := 0, locals := 0 }
theorem kwX3_take_0 : Cond.fieldLink RX3 13 "WantsBench$Tape" "length" "I" ∈ wsX3_take := by decide +kernel
theorem uwX3_take_3 : ∀ w ∈ wsX30, w ∈ wsX3_take := by decide +kernel
theorem kwX3_take_2 : Cond.fieldLink RX3 9 "WantsBench$Tape" "bytes" "[I" ∈ wsX3_take := by decide +kernel
def fX3_take_15b (N : Nat) (T : RS) (v1 : Int32) (v2 : Int32) (v3 : Int32) (R : Int32 → RS → Prop) (K : RS → Prop) (Q : Int32 → RS → Prop) : Prop :=
  ((v1 ≤ v3 → K T) ∧ (¬ v1 ≤ v3 → (vp_in (T.1 1) 80 ∧ (∀ T4 : RS, T4 = sA T 0 (upd (T.2.1 0) (T.1 1).toNatClampNeg (((v2.toUInt32 >>> (((8 : Int32) * v3).toUInt32 &&& Int32.toUInt32 31)).toInt32) &&& (255 : Int32))) → (∀ T5 : RS, T5 = sI T4 1 ((T4.1 1) + (1 : Int32)) → (∀ x6 : Int32, x6 = v3 + 1 → R x6 T5))))))
set_option maxRecDepth 100000 in
set_option maxHeartbeats 4000000 in
theorem wfX3_take_15b {x : Nx} {g : Gx} {W0 : va_W} {a : Nat → Nat} {T : RS} {N : Nat} {v1 : Int32} {v2 : Int32} {v3 : Int32} {R : Int32 → RS → Prop} {K : RS → Prop} {Q : Int32 → RS → Prop} (C : Cx x g cX3_take RX3 wsX3_take rmX3_take yX3_take (some .boolean) 4) (hZ : Zq x g W0 (fun u : RS => tW g a u) (qI (fun (r : Int32) (u : RS) => Q r u)) 0 0) (hR : ∀ (w3 : Int32) (T_ : RS), R w3 T_ → St x 0 0 (tW g a T_) [(0, .ref (a 50)), (1, .int v1), (2, .int v2), (3, .int w3)] [] 15) (hK : ∀ (T_ : RS), K T_ → St x 0 0 (tW g a T_) [] [] 55) (h : fX3_take_15b N T v1 v2 v3 R K Q) : St x 0 0 (tW g a T) [(0, .ref (a 50)), (1, .int v1), (2, .int v2), (3, .int v3)] [] 15 := by
  unfold fX3_take_15b at h
  refine r_iload_n C dX3_take_15 rfl ?_
  refine r_iload_n C dX3_take_16 rfl ?_
  refine r_icmp_ge (tgt := 55) C dX3_take_17 (by decide) (fun c2 => ?_) (fun c2 => ?_)
  · have h := h.1 c2
    refine r_sub [] (lv' := []) rfl ?_
    exact hK T h
  · have h := h.2 c2
    refine r_aload_n C dX3_take_20 rfl ?_
    refine r_get (cn := RX3) (T := TX3) (N := 8) (ci := 3) C uwX3_take_3 0 rfl rfl 0 (by decide) kwX3_take_2 (v := .ref (a 0)) rfl dX3_take_21 ?_
    refine r_aload_n C dX3_take_24 rfl ?_
    refine r_get (cn := RX3) (T := TX3) (N := 8) (ci := 3) C uwX3_take_3 0 rfl rfl 1 (by decide) kwX3_take_0 (v := .int (T.1 1)) rfl dX3_take_25 ?_
    refine r_iload_n C dX3_take_28 rfl ?_
    refine r_bipush (v := 8) C dX3_take_29 (by decide) ?_
    refine r_iload_n C dX3_take_31 rfl ?_
    refine r_imul C dX3_take_32 ?_
    refine r_iushr C dX3_take_33 ?_
    refine r_sipush (v := 255) C dX3_take_34 (by decide) ?_
    refine r_iand C dX3_take_37 ?_
    obtain ⟨hi3, h⟩ := h
    obtain ⟨T4, hT4⟩ : ∃ z : RS, z = sA T 0 (upd (T.2.1 0) (T.1 1).toNatClampNeg (((v2.toUInt32 >>> (((8 : Int32) * v3).toUInt32 &&& Int32.toUInt32 31)).toInt32) &&& (255 : Int32))) := ⟨_, rfl⟩
    have h := h T4 hT4
    refine r_iast (ws' := tW g a T4) C 1 rfl hi3 dX3_take_38 (by rw [hT4]; rfl) ?_
    refine r_aload_n C dX3_take_39 rfl ?_
    refine r_dup C dX3_take_40 rfl ?_
    refine r_get (cn := RX3) (T := TX3) (N := 8) (ci := 3) C uwX3_take_3 0 rfl rfl 1 (by decide) kwX3_take_0 (v := .int (T4.1 1)) rfl dX3_take_41 ?_
    refine r_iconst (v := 1) C dX3_take_44 (by decide) ?_
    refine r_iadd C dX3_take_45 ?_
    obtain ⟨T5, hT5⟩ : ∃ z : RS, z = sI T4 1 ((T4.1 1) + (1 : Int32)) := ⟨_, rfl⟩
    have h := h T5 hT5
    refine r_put (cn := RX3) (T := TX3) (N := 8) (ci := 3) (ws' := tW g a T5) C uwX3_take_3 tyX3 tyX3_ok nmX3 0 rfl rfl 1 (by decide) kwX3_take_0 rfl rfl rfl (Nat.le_of_ble_eq_true rfl) dX3_take_46 (by rw [hT5]; rfl) ?_
    obtain ⟨x6, ex6⟩ : ∃ z : Int32, z = v3 + 1 := ⟨_, rfl⟩
    have h := h x6 ex6
    refine r_iinc (v := x6) (lv' := [(0, .ref (a 50)), (1, .int v1), (2, .int v2), (3, .int x6)]) C dX3_take_49 rfl (by rw [ex6]; rfl) [some 0, some 1, some 2, none] (by decide) rfl rfl ?_
    refine r_goto (tgt := 15) C dX3_take_52 (by decide) ?_
    exact hR x6 T5 h
def fX3_take_15 (N : Nat) (v1 : Int32) (v2 : Int32) (K : RS → Prop) (Q : Int32 → RS → Prop) : Nat → Int32 → RS → Prop
  | 0, _, _ => False
  | n + 1, v3, T => fX3_take_15b N T v1 v2 v3 (fun v3 T => fX3_take_15 N v1 v2 K Q n v3 T) K Q
set_option maxRecDepth 100000 in
set_option maxHeartbeats 4000000 in
theorem wfX3_take_15 {x : Nx} {g : Gx} {W0 : va_W} {a : Nat → Nat}  {N : Nat} {v1 : Int32} {v2 : Int32} {K : RS → Prop} {Q : Int32 → RS → Prop} (C : Cx x g cX3_take RX3 wsX3_take rmX3_take yX3_take (some .boolean) 4) (hZ : Zq x g W0 (fun u : RS => tW g a u) (qI (fun (r : Int32) (u : RS) => Q r u)) 0 0) (hK : ∀ (T_ : RS), K T_ → St x 0 0 (tW g a T_) [] [] 55) : ∀ (n : Nat) (v3 : Int32) (T : RS), fX3_take_15 N v1 v2 K Q n v3 T → St x 0 0 (tW g a T) [(0, .ref (a 50)), (1, .int v1), (2, .int v2), (3, .int v3)] [] 15 := by
  intro n
  induction n with
  | zero => intro v3 T h; exact False.elim h
  | succ n ih => intro v3 T h; exact wfX3_take_15b C hZ ih hK h
def fX3_take (N : Nat) (T : RS) (v1 : Int32) (v2 : Int32) (Q : Int32 → RS → Prop) : Prop :=
  ((((T.1 1) + v1) ≤ 80 → (fX3_take_15 N v1 v2 (fun T7 => Q 1 T7) Q N 0 T)) ∧ (¬ ((T.1 1) + v1) ≤ 80 → Q 0 T))
set_option maxRecDepth 100000 in
set_option maxHeartbeats 4000000 in
theorem tX3_take (l : Launch) (g : Gx) (a : Nat → Nat) (T : RS) (N : Nat) (v1 : Int32) (v2 : Int32) (Q : Int32 → RS → Prop) (h : fX3_take N T v1 v2 Q) : MetG l g yX3_take wsX3_take rmX3_take [.ref (a 50), .int v1, .int v2] (tW g a T) (fun u : RS => tW g a u) (qI (fun (r : Int32) (u : RS) => Q r u)) 0 0 := by
  refine met_of (cc := cX3_take) (own := RX3) (nL := 4) (ret := (some .boolean)) (lv := [(0, .ref (a 50)), (1, .int v1), (2, .int v2)]) (by decide) rfl rfl (Nat.le_of_ble_eq_true rfl) rfl ?_
  intro x C hl hZ
  subst hl
  unfold fX3_take at h
  refine r_aload_n C dX3_take_0 rfl ?_
  refine r_get (cn := RX3) (T := TX3) (N := 8) (ci := 3) C uwX3_take_3 0 rfl rfl 1 (by decide) kwX3_take_0 (v := .int (T.1 1)) rfl dX3_take_1 ?_
  refine r_iload_n C dX3_take_4 rfl ?_
  refine r_iadd C dX3_take_5 ?_
  refine r_bipush (v := 80) C dX3_take_6 (by decide) ?_
  refine r_icmp_le (tgt := 13) C dX3_take_8 (by decide) (fun c1 => ?_) (fun c1 => ?_)
  · have h := h.1 c1
    refine r_iconst (v := 0) C dX3_take_13 (by decide) ?_
    refine r_istore_n (lv' := [(0, .ref (a 50)), (1, .int v1), (2, .int v2), (3, .int 0)]) C dX3_take_14 [some 0, some 1, some 2, none] (by decide) rfl rfl ?_
    refine wfX3_take_15 C hZ (fun T7 h => ?_) N _ _ h
    refine r_iconst (v := 1) C dX3_take_55 (by decide) ?_
    exact r_zret C hZ (u := T7) (by decide) h rfl dX3_take_56
  · have h := h.2 c1
    refine r_iconst (v := 0) C dX3_take_11 (by decide) ?_
    exact r_zret C hZ (u := T) (by decide) h rfl dX3_take_12
def rmX3_look : Room := { frames := 0, cells := 0, slots := 0, locals := 0 }
theorem kwX3_look_0 : Cond.fieldLink RX3 20 "WantsBench$Tape" "fault" "I" ∈ wsX3_look := by decide +kernel
theorem uwX3_look_3 : ∀ w ∈ wsX30, w ∈ wsX3_look := by decide +kernel
theorem kwX3_look_2 : Cond.fieldLink RX3 17 "WantsBench$Tape" "place" "I" ∈ wsX3_look := by decide +kernel
theorem kwX3_look_3 : Cond.fieldLink RX3 13 "WantsBench$Tape" "length" "I" ∈ wsX3_look := by decide +kernel
theorem kwX3_look_4 : Cond.fieldLink RX3 9 "WantsBench$Tape" "bytes" "[I" ∈ wsX3_look := by decide +kernel
def fX3_look (N : Nat) (T : RS) (Q : Int32 → Prop) : Prop :=
  ((¬ (T.1 3) = (-1) → Q (-1)) ∧ ((T.1 3) = (-1) → (((T.1 1) ≤ (T.1 2) → Q (-1)) ∧ (¬ (T.1 1) ≤ (T.1 2) → ((80 ≤ (T.1 2) → Q (-1)) ∧ (¬ 80 ≤ (T.1 2) → (vp_in (T.1 2) 80 ∧ Q (T.2.1 0 (T.1 2).toNatClampNeg))))))))
set_option maxRecDepth 100000 in
set_option maxHeartbeats 4000000 in
theorem tX3_look (l : Launch) (g : Gx) (a : Nat → Nat) (T : RS) (N : Nat) (Q : Int32 → Prop) (h : fX3_look N T Q) : MetG l g yX3_look wsX3_look rmX3_look [.ref (a 50)] (tW g a T) (fun _ : Unit => tW g a T) (qI (fun (r : Int32) (_ : Unit) => Q r)) 0 0 := by
  refine met_of (cc := cX3_look) (own := RX3) (nL := 1) (ret := (some .int)) (lv := [(0, .ref (a 50))]) (by decide) rfl rfl (Nat.le_of_ble_eq_true rfl) rfl ?_
  intro x C hl hZ
  subst hl
  unfold fX3_look at h
  refine r_aload_n C dX3_look_0 rfl ?_
  refine r_get (cn := RX3) (T := TX3) (N := 8) (ci := 3) C uwX3_look_3 0 rfl rfl 3 (by decide) kwX3_look_0 (v := .int (T.1 3)) rfl dX3_look_1 ?_
  refine r_iconst (v := (-1)) C dX3_look_4 (by decide) ?_
  refine r_icmp_ne (tgt := 40) C dX3_look_5 (by decide) (fun c1 => ?_) (fun c1 => ?_)
  · have h := h.1 c1
    refine r_iconst (v := (-1)) C dX3_look_40 (by decide) ?_
    exact r_iret C hZ (u := ()) h rfl dX3_look_41
  · have h := h.2 c1
    refine r_aload_n C dX3_look_8 rfl ?_
    refine r_get (cn := RX3) (T := TX3) (N := 8) (ci := 3) C uwX3_look_3 0 rfl rfl 2 (by decide) kwX3_look_2 (v := .int (T.1 2)) rfl dX3_look_9 ?_
    refine r_aload_n C dX3_look_12 rfl ?_
    refine r_get (cn := RX3) (T := TX3) (N := 8) (ci := 3) C uwX3_look_3 0 rfl rfl 1 (by decide) kwX3_look_3 (v := .int (T.1 1)) rfl dX3_look_13 ?_
    refine r_icmp_ge (tgt := 40) C dX3_look_16 (by decide) (fun c2 => ?_) (fun c2 => ?_)
    · have h := h.1 c2
      refine r_iconst (v := (-1)) C dX3_look_40 (by decide) ?_
      exact r_iret C hZ (u := ()) h rfl dX3_look_41
    · have h := h.2 c2
      refine r_aload_n C dX3_look_19 rfl ?_
      refine r_get (cn := RX3) (T := TX3) (N := 8) (ci := 3) C uwX3_look_3 0 rfl rfl 2 (by decide) kwX3_look_2 (v := .int (T.1 2)) rfl dX3_look_20 ?_
      refine r_bipush (v := 80) C dX3_look_23 (by decide) ?_
      refine r_icmp_ge (tgt := 40) C dX3_look_25 (by decide) (fun c3 => ?_) (fun c3 => ?_)
      · have h := h.1 c3
        refine r_iconst (v := (-1)) C dX3_look_40 (by decide) ?_
        exact r_iret C hZ (u := ()) h rfl dX3_look_41
      · have h := h.2 c3
        refine r_aload_n C dX3_look_28 rfl ?_
        refine r_get (cn := RX3) (T := TX3) (N := 8) (ci := 3) C uwX3_look_3 0 rfl rfl 0 (by decide) kwX3_look_4 (v := .ref (a 0)) rfl dX3_look_29 ?_
        refine r_aload_n C dX3_look_32 rfl ?_
        refine r_get (cn := RX3) (T := TX3) (N := 8) (ci := 3) C uwX3_look_3 0 rfl rfl 2 (by decide) kwX3_look_2 (v := .int (T.1 2)) rfl dX3_look_33 ?_
        obtain ⟨hi4, h⟩ := h
        refine r_iald C 1 rfl hi4 dX3_look_36 ?_
        refine r_goto (tgt := 41) C dX3_look_37 (by decide) ?_
        exact r_iret C hZ (u := ()) h rfl dX3_look_41
def rmX3_miss : Room := { frames := 0, cells := 0, slots := 0, locals := 0 }
theorem kwX3_miss_0 : Cond.fieldLink RX3 20 "WantsBench$Tape" "fault" "I" ∈ wsX3_miss := by decide +kernel
theorem uwX3_miss_3 : ∀ w ∈ wsX30, w ∈ wsX3_miss := by decide +kernel
theorem kwX3_miss_2 : Cond.fieldLink RX3 17 "WantsBench$Tape" "place" "I" ∈ wsX3_miss := by decide +kernel
def fX3_miss (N : Nat) (T : RS) (Q : Int64 → RS → Prop) : Prop :=
  ((¬ (T.1 3) = (-1) → Q 0 T) ∧ ((T.1 3) = (-1) → (∀ T2 : RS, T2 = sI T 3 (T.1 2) → Q 0 T2)))
set_option maxRecDepth 100000 in
set_option maxHeartbeats 4000000 in
theorem tX3_miss (l : Launch) (g : Gx) (a : Nat → Nat) (T : RS) (N : Nat) (Q : Int64 → RS → Prop) (h : fX3_miss N T Q) : MetG l g yX3_miss wsX3_miss rmX3_miss [.ref (a 50)] (tW g a T) (fun u : RS => tW g a u) (qL (fun (r : Int64) (u : RS) => Q r u)) 0 0 := by
  refine met_of (cc := cX3_miss) (own := RX3) (nL := 1) (ret := (some .long)) (lv := [(0, .ref (a 50))]) (by decide) rfl rfl (Nat.le_of_ble_eq_true rfl) rfl ?_
  intro x C hl hZ
  subst hl
  unfold fX3_miss at h
  refine r_aload_n C dX3_miss_0 rfl ?_
  refine r_get (cn := RX3) (T := TX3) (N := 8) (ci := 3) C uwX3_miss_3 0 rfl rfl 3 (by decide) kwX3_miss_0 (v := .int (T.1 3)) rfl dX3_miss_1 ?_
  refine r_iconst (v := (-1)) C dX3_miss_4 (by decide) ?_
  refine r_icmp_ne (tgt := 16) C dX3_miss_5 (by decide) (fun c1 => ?_) (fun c1 => ?_)
  · have h := h.1 c1
    refine r_lconst (v := 0) C dX3_miss_16 (by decide) ?_
    exact r_lret C hZ (u := T) h rfl dX3_miss_17
  · have h := h.2 c1
    refine r_aload_n C dX3_miss_8 rfl ?_
    refine r_aload_n C dX3_miss_9 rfl ?_
    refine r_get (cn := RX3) (T := TX3) (N := 8) (ci := 3) C uwX3_miss_3 0 rfl rfl 2 (by decide) kwX3_miss_2 (v := .int (T.1 2)) rfl dX3_miss_10 ?_
    obtain ⟨T2, hT2⟩ : ∃ z : RS, z = sI T 3 (T.1 2) := ⟨_, rfl⟩
    have h := h T2 hT2
    refine r_put (cn := RX3) (T := TX3) (N := 8) (ci := 3) (ws' := tW g a T2) C uwX3_miss_3 tyX3 tyX3_ok nmX3 0 rfl rfl 3 (by decide) kwX3_miss_0 rfl rfl rfl (Nat.le_of_ble_eq_true rfl) dX3_miss_13 (by rw [hT2]; rfl) ?_
    refine r_lconst (v := 0) C dX3_miss_16 (by decide) ?_
    exact r_lret C hZ (u := T2) h rfl dX3_miss_17
def rmX3_sign : Room := { frames := 0, cells := 0, slots := 0, locals := 0 }
theorem kwX3_sign_0 : Cond.fieldLink RX3 17 "WantsBench$Tape" "place" "I" ∈ wsX3_sign := by decide +kernel
theorem uwX3_sign_3 : ∀ w ∈ wsX30, w ∈ wsX3_sign := by decide +kernel
def fX3_sign (N : Nat) (T : RS) (v1 : Int64) (Q : Int64 → RS → Prop) : Prop :=
  (∀ T1 : RS, T1 = sI T 2 ((T.1 2) + (1 : Int32)) → Q v1 T1)
set_option maxRecDepth 100000 in
set_option maxHeartbeats 4000000 in
theorem tX3_sign (l : Launch) (g : Gx) (a : Nat → Nat) (T : RS) (N : Nat) (v1 : Int64) (Q : Int64 → RS → Prop) (h : fX3_sign N T v1 Q) : MetG l g yX3_sign wsX3_sign rmX3_sign [.ref (a 50), .long v1] (tW g a T) (fun u : RS => tW g a u) (qL (fun (r : Int64) (u : RS) => Q r u)) 0 0 := by
  refine met_of (cc := cX3_sign) (own := RX3) (nL := 3) (ret := (some .long)) (lv := [(0, .ref (a 50)), (1, .long v1)]) (by decide) rfl rfl (Nat.le_of_ble_eq_true rfl) rfl ?_
  intro x C hl hZ
  subst hl
  unfold fX3_sign at h
  refine r_aload_n C dX3_sign_0 rfl ?_
  refine r_dup C dX3_sign_1 rfl ?_
  refine r_get (cn := RX3) (T := TX3) (N := 8) (ci := 3) C uwX3_sign_3 0 rfl rfl 2 (by decide) kwX3_sign_0 (v := .int (T.1 2)) rfl dX3_sign_2 ?_
  refine r_iconst (v := 1) C dX3_sign_5 (by decide) ?_
  refine r_iadd C dX3_sign_6 ?_
  obtain ⟨T1, hT1⟩ : ∃ z : RS, z = sI T 2 ((T.1 2) + (1 : Int32)) := ⟨_, rfl⟩
  have h := h T1 hT1
  refine r_put (cn := RX3) (T := TX3) (N := 8) (ci := 3) (ws' := tW g a T1) C uwX3_sign_3 tyX3 tyX3_ok nmX3 0 rfl rfl 2 (by decide) kwX3_sign_0 rfl rfl rfl (Nat.le_of_ble_eq_true rfl) dX3_sign_7 (by rw [hT1]; rfl) ?_
  refine r_lload_n C dX3_sign_10 rfl ?_
  exact r_lret C hZ (u := T1) h rfl dX3_sign_11
