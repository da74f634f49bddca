def rmX6_isObeyed : Room := { frames := 3, cells := 0, slots := 0, locals := 74 }
theorem kwX6_isObeyed_0 : Cond.fieldLink RX6 214 "WantsBenchModel" "failures" "I" ∈ wsX6_isObeyed := by decide +kernel
theorem uwX6_isObeyed_6 : ∀ w ∈ wsX60, w ∈ wsX6_isObeyed := by decide +kernel
theorem kwX6_isObeyed_2 : Cond.fieldLink RX6 217 "WantsBenchModel" "setMany" "I" ∈ wsX6_isObeyed := by decide +kernel
theorem kwX6_isObeyed_3 : Cond.fieldLink RX6 60 "WantsBenchModel" "trying" "[I" ∈ wsX6_isObeyed := by decide +kernel
theorem kwX6_isObeyed_4 : Cond.fieldLink RX6 66 "WantsBenchModel" "failed" "[I" ∈ wsX6_isObeyed := by decide +kernel
theorem kwX6_isObeyed_5 : Cond.fieldLink RX6 149 "WantsBenchModel" "many" "I" ∈ wsX6_isObeyed := by decide +kernel
theorem kwX6_isObeyed_6 : Cond.fieldLink RX6 84 "WantsBenchModel" "setWants" "[I" ∈ wsX6_isObeyed := by decide +kernel
theorem kwX6_isObeyed_7 : Cond.fieldLink RX6 13 "WantsBenchModel" "sort" "[I" ∈ wsX6_isObeyed := by decide +kernel
theorem kwX6_isObeyed_8 : Cond.fieldLink RX6 16 "WantsBenchModel" "number" "[I" ∈ wsX6_isObeyed := by decide +kernel
theorem kwX6_isObeyed_9 : Cond.fieldLink RX6 53 "WantsBenchModel" "isSafe" "[Z" ∈ wsX6_isObeyed := by decide +kernel
def fX6_isObeyed_14b (N : Nat) (S : RS) (v1 : Int32) (v2 : Int32) (v3 : Int32) (R : Int32 → Int32 → Prop) (K : Int32 → Prop) (Q : Int32 → RS → Prop) : Prop :=
  (((S.1 42) ≤ v3 → K v2) ∧ (¬ (S.1 42) ≤ v3 → ((v2 = 0 → (∀ x4 : Int32, x4 = v3 + 1 → R 0 x4)) ∧ (¬ v2 = 0 → (vp_in v3 5 ∧ (vp_in (((5 : Int32) * v1) + v3) 3125 ∧ (((S.2.1 28 (((5 : Int32) * v1) + v3).toNatClampNeg) < (S.2.1 24 v3.toNatClampNeg) → (∀ x8 : Int32, x8 = v3 + 1 → R 0 x8)) ∧ (¬ (S.2.1 28 (((5 : Int32) * v1) + v3).toNatClampNeg) < (S.2.1 24 v3.toNatClampNeg) → (∀ x9 : Int32, x9 = v3 + 1 → R 1 x9)))))))))
set_option maxRecDepth 100000 in
set_option maxHeartbeats 4000000 in
theorem wfX6_isObeyed_14b {x : Nx} {g : Gx} {W0 : va_W} {a : Nat → Nat} {S : RS} {N : Nat} {v1 : Int32} {v2 : Int32} {v3 : Int32} {R : Int32 → Int32 → Prop} {K : Int32 → Prop} {Q : Int32 → RS → Prop} (C : Cx x g cX6_isObeyed RX6 wsX6_isObeyed rmX6_isObeyed yX6_isObeyed (some .boolean) 4) (hZ : Zq x g W0 (fun u : RS => mW g a u) (qI (fun (r : Int32) (u : RS) => Q r u)) 0 0) (hR : ∀ (w2 : Int32) (w3 : Int32), R w2 w3 → St x 0 0 (mW g a S) [(0, .ref (a 50)), (1, .int v1), (2, .int w2), (3, .int w3)] [] 14) (hK : ∀ (w2 : Int32), K w2 → St x 0 0 (mW g a S) [(0, .ref (a 50)), (1, .int v1), (2, .int w2)] [] 57) (h : fX6_isObeyed_14b N S v1 v2 v3 R K Q) : St x 0 0 (mW g a S) [(0, .ref (a 50)), (1, .int v1), (2, .int v2), (3, .int v3)] [] 14 := by
  unfold fX6_isObeyed_14b at h
  refine r_iload_n C dX6_isObeyed_14 rfl ?_
  refine r_aload_n C dX6_isObeyed_15 rfl ?_
  refine r_get (cn := RX6) (T := TX6) (N := 43) (ci := 6) C uwX6_isObeyed_6 0 rfl rfl 42 (by decide) kwX6_isObeyed_2 (v := .int (S.1 42)) rfl dX6_isObeyed_16 ?_
  refine r_icmp_ge (tgt := 57) C dX6_isObeyed_19 (by decide) (fun c2 => ?_) (fun c2 => ?_)
  · have h := h.1 c2
    refine r_sub [0, 1, 2] (lv' := [(0, .ref (a 50)), (1, .int v1), (2, .int v2)]) rfl ?_
    exact hK v2 h
  · have h := h.2 c2
    refine r_iload_n C dX6_isObeyed_22 rfl ?_
    refine r_if_eq (tgt := 49) C dX6_isObeyed_23 (by decide) (fun c3 => ?_) (fun c3 => ?_)
    · have h := h.1 c3
      refine r_iconst (v := 0) C dX6_isObeyed_49 (by decide) ?_
      refine r_istore_n (lv' := [(0, .ref (a 50)), (1, .int v1), (2, .int 0), (3, .int v3)]) C dX6_isObeyed_50 [some 0, some 1, none, some 3] (by decide) rfl rfl ?_
      obtain ⟨x4, ex4⟩ : ∃ z : Int32, z = v3 + 1 := ⟨_, rfl⟩
      have h := h x4 ex4
      refine r_iinc (v := x4) (lv' := [(0, .ref (a 50)), (1, .int v1), (2, .int 0), (3, .int x4)]) C dX6_isObeyed_51 rfl (by rw [ex4]; rfl) [some 0, some 1, some 2, none] (by decide) rfl rfl ?_
      refine r_goto (tgt := 14) C dX6_isObeyed_54 (by decide) ?_
      exact hR 0 x4 h
    · have h := h.2 c3
      refine r_aload_n C dX6_isObeyed_26 rfl ?_
      refine r_get (cn := RX6) (T := TX6) (N := 43) (ci := 6) C uwX6_isObeyed_6 0 rfl rfl 24 (by decide) kwX6_isObeyed_3 (v := .ref (a 24)) rfl dX6_isObeyed_27 ?_
      refine r_iload_n C dX6_isObeyed_30 rfl ?_
      obtain ⟨hi5, h⟩ := h
      refine r_iald C 17 rfl hi5 dX6_isObeyed_31 ?_
      refine r_aload_n C dX6_isObeyed_32 rfl ?_
      refine r_get (cn := RX6) (T := TX6) (N := 43) (ci := 6) C uwX6_isObeyed_6 0 rfl rfl 28 (by decide) kwX6_isObeyed_4 (v := .ref (a 28)) rfl dX6_isObeyed_33 ?_
      refine r_iconst (v := 5) C dX6_isObeyed_36 (by decide) ?_
      refine r_iload_n C dX6_isObeyed_37 rfl ?_
      refine r_imul C dX6_isObeyed_38 ?_
      refine r_iload_n C dX6_isObeyed_39 rfl ?_
      refine r_iadd C dX6_isObeyed_40 ?_
      obtain ⟨hi6, h⟩ := h
      refine r_iald C 19 rfl hi6 dX6_isObeyed_41 ?_
      refine r_icmp_gt (tgt := 49) C dX6_isObeyed_42 (by decide) (fun c7 => ?_) (fun c7 => ?_)
      · have h := h.1 c7
        refine r_iconst (v := 0) C dX6_isObeyed_49 (by decide) ?_
        refine r_istore_n (lv' := [(0, .ref (a 50)), (1, .int v1), (2, .int 0), (3, .int v3)]) C dX6_isObeyed_50 [some 0, some 1, none, some 3] (by decide) rfl rfl ?_
        obtain ⟨x8, ex8⟩ : ∃ z : Int32, z = v3 + 1 := ⟨_, rfl⟩
        have h := h x8 ex8
        refine r_iinc (v := x8) (lv' := [(0, .ref (a 50)), (1, .int v1), (2, .int 0), (3, .int x8)]) C dX6_isObeyed_51 rfl (by rw [ex8]; rfl) [some 0, some 1, some 2, none] (by decide) rfl rfl ?_
        refine r_goto (tgt := 14) C dX6_isObeyed_54 (by decide) ?_
        exact hR 0 x8 h
      · have h := h.2 c7
        refine r_iconst (v := 1) C dX6_isObeyed_45 (by decide) ?_
        refine r_goto (tgt := 50) C dX6_isObeyed_46 (by decide) ?_
        refine r_istore_n (lv' := [(0, .ref (a 50)), (1, .int v1), (2, .int 1), (3, .int v3)]) C dX6_isObeyed_50 [some 0, some 1, none, some 3] (by decide) rfl rfl ?_
        obtain ⟨x9, ex9⟩ : ∃ z : Int32, z = v3 + 1 := ⟨_, rfl⟩
        have h := h x9 ex9
        refine r_iinc (v := x9) (lv' := [(0, .ref (a 50)), (1, .int v1), (2, .int 1), (3, .int x9)]) C dX6_isObeyed_51 rfl (by rw [ex9]; rfl) [some 0, some 1, some 2, none] (by decide) rfl rfl ?_
        refine r_goto (tgt := 14) C dX6_isObeyed_54 (by decide) ?_
        exact hR 1 x9 h
def fX6_isObeyed_14 (N : Nat) (S : RS) (v1 : Int32) (K : Int32 → Prop) (Q : Int32 → RS → Prop) : Nat → Int32 → Int32 → Prop
  | 0, _, _ => False
  | n + 1, v2, v3 => fX6_isObeyed_14b N S v1 v2 v3 (fun v2 v3 => fX6_isObeyed_14 N S v1 K Q n v2 v3) K Q
set_option maxRecDepth 100000 in
set_option maxHeartbeats 4000000 in
theorem wfX6_isObeyed_14 {x : Nx} {g : Gx} {W0 : va_W} {a : Nat → Nat} {S : RS} {N : Nat} {v1 : Int32} {K : Int32 → Prop} {Q : Int32 → RS → Prop} (C : Cx x g cX6_isObeyed RX6 wsX6_isObeyed rmX6_isObeyed yX6_isObeyed (some .boolean) 4) (hZ : Zq x g W0 (fun u : RS => mW g a u) (qI (fun (r : Int32) (u : RS) => Q r u)) 0 0) (hK : ∀ (w2 : Int32), K w2 → St x 0 0 (mW g a S) [(0, .ref (a 50)), (1, .int v1), (2, .int w2)] [] 57) : ∀ (n : Nat) (v2 : Int32) (v3 : Int32), fX6_isObeyed_14 N S v1 K Q n v2 v3 → St x 0 0 (mW g a S) [(0, .ref (a 50)), (1, .int v1), (2, .int v2), (3, .int v3)] [] 14 := by
  intro n
  induction n with
  | zero => intro v2 v3 h; exact False.elim h
  | succ n ih => intro v2 v3 h; exact wfX6_isObeyed_14b C hZ ih hK h
def fX6_isObeyed_2b (N : Nat) (S : RS) (v1 : Int32) (R : Int32 → Prop) (K : Prop) (Q : Int32 → RS → Prop) : Prop :=
  (((S.1 29) ≤ v1 → K) ∧ (¬ (S.1 29) ≤ v1 → (fX6_isObeyed_14 N S v1 (fun x10 => ((x10 = 0 → (∀ x12 : Int32, x12 = v1 + 1 → R x12)) ∧ (¬ x10 = 0 → Q 0 S))) Q N 1 0)))
set_option maxRecDepth 100000 in
set_option maxHeartbeats 4000000 in
theorem wfX6_isObeyed_2b {x : Nx} {g : Gx} {W0 : va_W} {a : Nat → Nat} {S : RS} {N : Nat} {v1 : Int32} {R : Int32 → Prop} {K : Prop} {Q : Int32 → RS → Prop} (C : Cx x g cX6_isObeyed RX6 wsX6_isObeyed rmX6_isObeyed yX6_isObeyed (some .boolean) 4) (hZ : Zq x g W0 (fun u : RS => mW g a u) (qI (fun (r : Int32) (u : RS) => Q r u)) 0 0) (hR : ∀ (w1 : Int32), R w1 → St x 0 0 (mW g a S) [(0, .ref (a 50)), (1, .int w1)] [] 2) (hK : K → St x 0 0 (mW g a S) [(0, .ref (a 50))] [] 69) (h : fX6_isObeyed_2b N S v1 R K Q) : St x 0 0 (mW g a S) [(0, .ref (a 50)), (1, .int v1)] [] 2 := by
  unfold fX6_isObeyed_2b at h
  refine r_iload_n C dX6_isObeyed_2 rfl ?_
  refine r_aload_n C dX6_isObeyed_3 rfl ?_
  refine r_get (cn := RX6) (T := TX6) (N := 43) (ci := 6) C uwX6_isObeyed_6 0 rfl rfl 29 (by decide) kwX6_isObeyed_0 (v := .int (S.1 29)) rfl dX6_isObeyed_4 ?_
  refine r_icmp_ge (tgt := 69) C dX6_isObeyed_7 (by decide) (fun c1 => ?_) (fun c1 => ?_)
  · have h := h.1 c1
    refine r_sub [0] (lv' := [(0, .ref (a 50))]) rfl ?_
    exact hK h
  · have h := h.2 c1
    refine r_iconst (v := 1) C dX6_isObeyed_10 (by decide) ?_
    refine r_istore_n (lv' := [(0, .ref (a 50)), (1, .int v1), (2, .int 1)]) C dX6_isObeyed_11 [some 0, some 1, none] (by decide) rfl rfl ?_
    refine r_iconst (v := 0) C dX6_isObeyed_12 (by decide) ?_
    refine r_istore_n (lv' := [(0, .ref (a 50)), (1, .int v1), (2, .int 1), (3, .int 0)]) C dX6_isObeyed_13 [some 0, some 1, some 2, none] (by decide) rfl rfl ?_
    refine wfX6_isObeyed_14 C hZ (fun x10 h => ?_) N _ _ h
    refine r_iload_n C dX6_isObeyed_57 rfl ?_
    refine r_if_eq (tgt := 63) C dX6_isObeyed_58 (by decide) (fun c11 => ?_) (fun c11 => ?_)
    · have h := h.1 c11
      obtain ⟨x12, ex12⟩ : ∃ z : Int32, z = v1 + 1 := ⟨_, rfl⟩
      have h := h x12 ex12
      refine r_iinc (v := x12) (lv' := [(0, .ref (a 50)), (1, .int x12)]) C dX6_isObeyed_63 rfl (by rw [ex12]; rfl) [some 0, none] (by decide) rfl rfl ?_
      refine r_goto (tgt := 2) C dX6_isObeyed_66 (by decide) ?_
      exact hR x12 h
    · have h := h.2 c11
      refine r_iconst (v := 0) C dX6_isObeyed_61 (by decide) ?_
      exact r_zret C hZ (u := S) (by decide) h rfl dX6_isObeyed_62
def fX6_isObeyed_2 (N : Nat) (S : RS) (K : Prop) (Q : Int32 → RS → Prop) : Nat → Int32 → Prop
  | 0, _ => False
  | n + 1, v1 => fX6_isObeyed_2b N S v1 (fun v1 => fX6_isObeyed_2 N S K Q n v1) K Q
set_option maxRecDepth 100000 in
set_option maxHeartbeats 4000000 in
theorem wfX6_isObeyed_2 {x : Nx} {g : Gx} {W0 : va_W} {a : Nat → Nat} {S : RS} {N : Nat} {K : Prop} {Q : Int32 → RS → Prop} (C : Cx x g cX6_isObeyed RX6 wsX6_isObeyed rmX6_isObeyed yX6_isObeyed (some .boolean) 4) (hZ : Zq x g W0 (fun u : RS => mW g a u) (qI (fun (r : Int32) (u : RS) => Q r u)) 0 0) (hK : K → St x 0 0 (mW g a S) [(0, .ref (a 50))] [] 69) : ∀ (n : Nat) (v1 : Int32), fX6_isObeyed_2 N S K Q n v1 → St x 0 0 (mW g a S) [(0, .ref (a 50)), (1, .int v1)] [] 2 := by
  intro n
  induction n with
  | zero => intro v1 h; exact False.elim h
  | succ n ih => intro v1 h; exact wfX6_isObeyed_2b C hZ ih hK h
def fX6_isObeyed_142 (N : Nat) (S : RS) (v1 : Int32) (k1 : Int32) (k2 : Int32) (R : Int32 → RS → Prop) (K : RS → Prop) (Q : Int32 → RS → Prop) : Prop :=
  (fX6_add N S k1 k2 (fun  S24 => (∀ x25 : Int32, x25 = v1 + 1 → R x25 S24)))
set_option maxRecDepth 100000 in
set_option maxHeartbeats 4000000 in
theorem wfX6_isObeyed_142 {x : Nx} {g : Gx} {W0 : va_W} {a : Nat → Nat} {S : RS} {N : Nat} {v1 : Int32} {k1 : Int32} {k2 : Int32} {R : Int32 → RS → Prop} {K : RS → Prop} {Q : Int32 → RS → Prop} (C : Cx x g cX6_isObeyed RX6 wsX6_isObeyed rmX6_isObeyed yX6_isObeyed (some .boolean) 4) (hZ : Zq x g W0 (fun u : RS => mW g a u) (qI (fun (r : Int32) (u : RS) => Q r u)) 0 0) (hR : ∀ (w1 : Int32) (S_ : RS), R w1 S_ → St x 0 0 (mW g a S_) [(0, .ref (a 50)), (1, .int w1)] [] 76) (hK : ∀ (S_ : RS), K S_ → St x 0 0 (mW g a S_) [(0, .ref (a 50))] [] 151) (h : fX6_isObeyed_142 N S v1 k1 k2 R K Q) : St x 0 0 (mW g a S) [(0, .ref (a 50)), (1, .int v1)] [.int k2, .int k1, .ref (a 50)] 142 := by
  unfold fX6_isObeyed_142 at h
  refine callW_V C (run_V (As := [.int k1, .int k2]) (rest := []) (ci := 6) C hZ.2.2 (tX6_add _ g a S N k1 k2 _ h) gX6_isObeyed_X6_add rfl dsX6_add rfl rfl ⟨(Nat.le_of_ble_eq_true rfl), (Nat.le_of_ble_eq_true rfl)⟩ rfl (List.mem_of_getElem? (i := 0) rfl) rfl (Nat.le_of_ble_eq_true rfl) dX6_isObeyed_142 ⟨Nat.zero_le _, Nat.zero_le _⟩) (fun S24 h => ?_)
  show St x 0 0 (mW g a S24) _ _ 145
  obtain ⟨x25, ex25⟩ : ∃ z : Int32, z = v1 + 1 := ⟨_, rfl⟩
  have h := h x25 ex25
  refine r_iinc (v := x25) (lv' := [(0, .ref (a 50)), (1, .int x25)]) C dX6_isObeyed_145 rfl (by rw [ex25]; rfl) [some 0, none] (by decide) rfl rfl ?_
  refine r_goto (tgt := 76) C dX6_isObeyed_148 (by decide) ?_
  exact hR x25 S24 h
def fX6_isObeyed_76b (N : Nat) (S : RS) (v1 : Int32) (R : Int32 → RS → Prop) (K : RS → Prop) (Q : Int32 → RS → Prop) : Prop :=
  (((S.1 42) ≤ v1 → K S) ∧ (¬ (S.1 42) ≤ v1 → (vp_in v1 5 ∧ (∀ x16 : Int32, x16 = S.2.1 41 v1.toNatClampNeg → (vp_in v1 5 ∧ (((S.2.1 24 v1.toNatClampNeg) = 4 → (∀ x19 : Int32, x19 = v1 + 1 → R x19 S)) ∧ (¬ (S.2.1 24 v1.toNatClampNeg) = 4 → (vp_in x16 20 ∧ ((¬ (S.2.1 3 x16.toNatClampNeg) = 1 → (vp_in x16 20 ∧ (vp_in v1 5 ∧ (fX6_isObeyed_142 N S v1 x16 ((S.2.1 4 x16.toNatClampNeg) - (S.2.1 24 v1.toNatClampNeg)) R K Q)))) ∧ ((S.2.1 3 x16.toNatClampNeg) = 1 → (vp_in x16 20 ∧ (vp_in v1 5 ∧ (fX6_isObeyed_142 N S v1 x16 ((S.2.1 4 x16.toNatClampNeg) + (S.2.1 24 v1.toNatClampNeg)) R K Q)))))))))))))
set_option maxRecDepth 100000 in
set_option maxHeartbeats 4000000 in
theorem wfX6_isObeyed_76b {x : Nx} {g : Gx} {W0 : va_W} {a : Nat → Nat} {S : RS} {N : Nat} {v1 : Int32} {R : Int32 → RS → Prop} {K : RS → Prop} {Q : Int32 → RS → Prop} (C : Cx x g cX6_isObeyed RX6 wsX6_isObeyed rmX6_isObeyed yX6_isObeyed (some .boolean) 4) (hZ : Zq x g W0 (fun u : RS => mW g a u) (qI (fun (r : Int32) (u : RS) => Q r u)) 0 0) (hR : ∀ (w1 : Int32) (S_ : RS), R w1 S_ → St x 0 0 (mW g a S_) [(0, .ref (a 50)), (1, .int w1)] [] 76) (hK : ∀ (S_ : RS), K S_ → St x 0 0 (mW g a S_) [(0, .ref (a 50))] [] 151) (h : fX6_isObeyed_76b N S v1 R K Q) : St x 0 0 (mW g a S) [(0, .ref (a 50)), (1, .int v1)] [] 76 := by
  unfold fX6_isObeyed_76b at h
  refine r_iload_n C dX6_isObeyed_76 rfl ?_
  refine r_aload_n C dX6_isObeyed_77 rfl ?_
  refine r_get (cn := RX6) (T := TX6) (N := 43) (ci := 6) C uwX6_isObeyed_6 0 rfl rfl 42 (by decide) kwX6_isObeyed_2 (v := .int (S.1 42)) rfl dX6_isObeyed_78 ?_
  refine r_icmp_ge (tgt := 151) C dX6_isObeyed_81 (by decide) (fun c14 => ?_) (fun c14 => ?_)
  · have h := h.1 c14
    refine r_sub [0] (lv' := [(0, .ref (a 50))]) rfl ?_
    exact hK S h
  · have h := h.2 c14
    refine r_aload_n C dX6_isObeyed_84 rfl ?_
    refine r_get (cn := RX6) (T := TX6) (N := 43) (ci := 6) C uwX6_isObeyed_6 0 rfl rfl 41 (by decide) kwX6_isObeyed_6 (v := .ref (a 41)) rfl dX6_isObeyed_85 ?_
    refine r_iload_n C dX6_isObeyed_88 rfl ?_
    obtain ⟨hi15, h⟩ := h
    refine r_iald C 25 rfl hi15 dX6_isObeyed_89 ?_
    refine r_topi (fun x16 ex16 => ?_)
    have h := h x16 ex16
    refine r_istore_n (lv' := [(0, .ref (a 50)), (1, .int v1), (2, .int x16)]) C dX6_isObeyed_90 [some 0, some 1, none] (by decide) rfl rfl ?_
    refine r_aload_n C dX6_isObeyed_91 rfl ?_
    refine r_get (cn := RX6) (T := TX6) (N := 43) (ci := 6) C uwX6_isObeyed_6 0 rfl rfl 24 (by decide) kwX6_isObeyed_3 (v := .ref (a 24)) rfl dX6_isObeyed_92 ?_
    refine r_iload_n C dX6_isObeyed_95 rfl ?_
    obtain ⟨hi17, h⟩ := h
    refine r_iald C 17 rfl hi17 dX6_isObeyed_96 ?_
    refine r_iconst (v := 4) C dX6_isObeyed_97 (by decide) ?_
    refine r_icmp_eq (tgt := 145) C dX6_isObeyed_98 (by decide) (fun c18 => ?_) (fun c18 => ?_)
    · have h := h.1 c18
      obtain ⟨x19, ex19⟩ : ∃ z : Int32, z = v1 + 1 := ⟨_, rfl⟩
      have h := h x19 ex19
      refine r_iinc (v := x19) (lv' := [(0, .ref (a 50)), (1, .int x19)]) C dX6_isObeyed_145 rfl (by rw [ex19]; rfl) [some 0, none] (by decide) rfl rfl ?_
      refine r_goto (tgt := 76) C dX6_isObeyed_148 (by decide) ?_
      exact hR x19 S h
    · have h := h.2 c18
      refine r_aload_n C dX6_isObeyed_101 rfl ?_
      refine r_iload_n C dX6_isObeyed_102 rfl ?_
      refine r_aload_n C dX6_isObeyed_103 rfl ?_
      refine r_get (cn := RX6) (T := TX6) (N := 43) (ci := 6) C uwX6_isObeyed_6 0 rfl rfl 3 (by decide) kwX6_isObeyed_7 (v := .ref (a 3)) rfl dX6_isObeyed_104 ?_
      refine r_iload_n C dX6_isObeyed_107 rfl ?_
      obtain ⟨hi20, h⟩ := h
      refine r_iald C 2 rfl hi20 dX6_isObeyed_108 ?_
      refine r_iconst (v := 1) C dX6_isObeyed_109 (by decide) ?_
      refine r_icmp_ne (tgt := 129) C dX6_isObeyed_110 (by decide) (fun c21 => ?_) (fun c21 => ?_)
      · have h := h.1 c21
        refine r_aload_n C dX6_isObeyed_129 rfl ?_
        refine r_get (cn := RX6) (T := TX6) (N := 43) (ci := 6) C uwX6_isObeyed_6 0 rfl rfl 4 (by decide) kwX6_isObeyed_8 (v := .ref (a 4)) rfl dX6_isObeyed_130 ?_
        refine r_iload_n C dX6_isObeyed_133 rfl ?_
        obtain ⟨hi22, h⟩ := h
        refine r_iald C 3 rfl hi22 dX6_isObeyed_134 ?_
        refine r_aload_n C dX6_isObeyed_135 rfl ?_
        refine r_get (cn := RX6) (T := TX6) (N := 43) (ci := 6) C uwX6_isObeyed_6 0 rfl rfl 24 (by decide) kwX6_isObeyed_3 (v := .ref (a 24)) rfl dX6_isObeyed_136 ?_
        refine r_iload_n C dX6_isObeyed_139 rfl ?_
        obtain ⟨hi23, h⟩ := h
        refine r_iald C 17 rfl hi23 dX6_isObeyed_140 ?_
        refine r_isub C dX6_isObeyed_141 ?_
        refine r_sub [0, 1] (lv' := [(0, .ref (a 50)), (1, .int v1)]) rfl ?_
        exact wfX6_isObeyed_142 C hZ hR hK h
      · have h := h.2 c21
        refine r_aload_n C dX6_isObeyed_113 rfl ?_
        refine r_get (cn := RX6) (T := TX6) (N := 43) (ci := 6) C uwX6_isObeyed_6 0 rfl rfl 4 (by decide) kwX6_isObeyed_8 (v := .ref (a 4)) rfl dX6_isObeyed_114 ?_
        refine r_iload_n C dX6_isObeyed_117 rfl ?_
        obtain ⟨hi26, h⟩ := h
        refine r_iald C 3 rfl hi26 dX6_isObeyed_118 ?_
        refine r_aload_n C dX6_isObeyed_119 rfl ?_
        refine r_get (cn := RX6) (T := TX6) (N := 43) (ci := 6) C uwX6_isObeyed_6 0 rfl rfl 24 (by decide) kwX6_isObeyed_3 (v := .ref (a 24)) rfl dX6_isObeyed_120 ?_
        refine r_iload_n C dX6_isObeyed_123 rfl ?_
        obtain ⟨hi27, h⟩ := h
        refine r_iald C 17 rfl hi27 dX6_isObeyed_124 ?_
        refine r_iadd C dX6_isObeyed_125 ?_
        refine r_goto (tgt := 142) C dX6_isObeyed_126 (by decide) ?_
        refine r_sub [0, 1] (lv' := [(0, .ref (a 50)), (1, .int v1)]) rfl ?_
        exact wfX6_isObeyed_142 C hZ hR hK h
def fX6_isObeyed_76 (N : Nat) (K : RS → Prop) (Q : Int32 → RS → Prop) : Nat → Int32 → RS → Prop
  | 0, _, _ => False
  | n + 1, v1, S => fX6_isObeyed_76b N S v1 (fun v1 S => fX6_isObeyed_76 N K Q n v1 S) K Q
set_option maxRecDepth 100000 in
set_option maxHeartbeats 4000000 in
theorem wfX6_isObeyed_76 {x : Nx} {g : Gx} {W0 : va_W} {a : Nat → Nat}  {N : Nat} {K : RS → Prop} {Q : Int32 → RS → Prop} (C : Cx x g cX6_isObeyed RX6 wsX6_isObeyed rmX6_isObeyed yX6_isObeyed (some .boolean) 4) (hZ : Zq x g W0 (fun u : RS => mW g a u) (qI (fun (r : Int32) (u : RS) => Q r u)) 0 0) (hK : ∀ (S_ : RS), K S_ → St x 0 0 (mW g a S_) [(0, .ref (a 50))] [] 151) : ∀ (n : Nat) (v1 : Int32) (S : RS), fX6_isObeyed_76 N K Q n v1 S → St x 0 0 (mW g a S) [(0, .ref (a 50)), (1, .int v1)] [] 76 := by
  intro n
  induction n with
  | zero => intro v1 S h; exact False.elim h
  | succ n ih => intro v1 S h; exact wfX6_isObeyed_76b C hZ ih hK h
def fX6_isObeyed_166b (N : Nat) (S : RS) (v1 : Int32) (R : Int32 → RS → Prop) (K : RS → Prop) (Q : Int32 → RS → Prop) : Prop :=
  (((S.1 42) ≤ v1 → K S) ∧ (¬ (S.1 42) ≤ v1 → (vp_in v1 5 ∧ (vp_in (((5 : Int32) * (S.1 29)) + v1) 3125 ∧ (∀ S36 : RS, S36 = sA S 28 (upd (S.2.1 28) (((5 : Int32) * (S.1 29)) + v1).toNatClampNeg (S.2.1 24 v1.toNatClampNeg)) → (∀ x37 : Int32, x37 = v1 + 1 → R x37 S36))))))
set_option maxRecDepth 100000 in
set_option maxHeartbeats 4000000 in
theorem wfX6_isObeyed_166b {x : Nx} {g : Gx} {W0 : va_W} {a : Nat → Nat} {S : RS} {N : Nat} {v1 : Int32} {R : Int32 → RS → Prop} {K : RS → Prop} {Q : Int32 → RS → Prop} (C : Cx x g cX6_isObeyed RX6 wsX6_isObeyed rmX6_isObeyed yX6_isObeyed (some .boolean) 4) (hZ : Zq x g W0 (fun u : RS => mW g a u) (qI (fun (r : Int32) (u : RS) => Q r u)) 0 0) (hR : ∀ (w1 : Int32) (S_ : RS), R w1 S_ → St x 0 0 (mW g a S_) [(0, .ref (a 50)), (1, .int w1)] [] 166) (hK : ∀ (S_ : RS), K S_ → St x 0 0 (mW g a S_) [(0, .ref (a 50))] [] 199) (h : fX6_isObeyed_166b N S v1 R K Q) : St x 0 0 (mW g a S) [(0, .ref (a 50)), (1, .int v1)] [] 166 := by
  unfold fX6_isObeyed_166b at h
  refine r_iload_n C dX6_isObeyed_166 rfl ?_
  refine r_aload_n C dX6_isObeyed_167 rfl ?_
  refine r_get (cn := RX6) (T := TX6) (N := 43) (ci := 6) C uwX6_isObeyed_6 0 rfl rfl 42 (by decide) kwX6_isObeyed_2 (v := .int (S.1 42)) rfl dX6_isObeyed_168 ?_
  refine r_icmp_ge (tgt := 199) C dX6_isObeyed_171 (by decide) (fun c33 => ?_) (fun c33 => ?_)
  · have h := h.1 c33
    refine r_sub [0] (lv' := [(0, .ref (a 50))]) rfl ?_
    exact hK S h
  · have h := h.2 c33
    refine r_aload_n C dX6_isObeyed_174 rfl ?_
    refine r_get (cn := RX6) (T := TX6) (N := 43) (ci := 6) C uwX6_isObeyed_6 0 rfl rfl 28 (by decide) kwX6_isObeyed_4 (v := .ref (a 28)) rfl dX6_isObeyed_175 ?_
    refine r_iconst (v := 5) C dX6_isObeyed_178 (by decide) ?_
    refine r_aload_n C dX6_isObeyed_179 rfl ?_
    refine r_get (cn := RX6) (T := TX6) (N := 43) (ci := 6) C uwX6_isObeyed_6 0 rfl rfl 29 (by decide) kwX6_isObeyed_0 (v := .int (S.1 29)) rfl dX6_isObeyed_180 ?_
    refine r_imul C dX6_isObeyed_183 ?_
    refine r_iload_n C dX6_isObeyed_184 rfl ?_
    refine r_iadd C dX6_isObeyed_185 ?_
    refine r_aload_n C dX6_isObeyed_186 rfl ?_
    refine r_get (cn := RX6) (T := TX6) (N := 43) (ci := 6) C uwX6_isObeyed_6 0 rfl rfl 24 (by decide) kwX6_isObeyed_3 (v := .ref (a 24)) rfl dX6_isObeyed_187 ?_
    refine r_iload_n C dX6_isObeyed_190 rfl ?_
    obtain ⟨hi34, h⟩ := h
    refine r_iald C 17 rfl hi34 dX6_isObeyed_191 ?_
    obtain ⟨hi35, h⟩ := h
    obtain ⟨S36, hS36⟩ : ∃ z : RS, z = sA S 28 (upd (S.2.1 28) (((5 : Int32) * (S.1 29)) + v1).toNatClampNeg (S.2.1 24 v1.toNatClampNeg)) := ⟨_, rfl⟩
    have h := h S36 hS36
    refine r_iast (ws' := mW g a S36) C 19 rfl hi35 dX6_isObeyed_192 (by rw [hS36]; rfl) ?_
    obtain ⟨x37, ex37⟩ : ∃ z : Int32, z = v1 + 1 := ⟨_, rfl⟩
    have h := h x37 ex37
    refine r_iinc (v := x37) (lv' := [(0, .ref (a 50)), (1, .int x37)]) C dX6_isObeyed_193 rfl (by rw [ex37]; rfl) [some 0, none] (by decide) rfl rfl ?_
    refine r_goto (tgt := 166) C dX6_isObeyed_196 (by decide) ?_
    exact hR x37 S36 h
def fX6_isObeyed_166 (N : Nat) (K : RS → Prop) (Q : Int32 → RS → Prop) : Nat → Int32 → RS → Prop
  | 0, _, _ => False
  | n + 1, v1, S => fX6_isObeyed_166b N S v1 (fun v1 S => fX6_isObeyed_166 N K Q n v1 S) K Q
set_option maxRecDepth 100000 in
set_option maxHeartbeats 4000000 in
theorem wfX6_isObeyed_166 {x : Nx} {g : Gx} {W0 : va_W} {a : Nat → Nat}  {N : Nat} {K : RS → Prop} {Q : Int32 → RS → Prop} (C : Cx x g cX6_isObeyed RX6 wsX6_isObeyed rmX6_isObeyed yX6_isObeyed (some .boolean) 4) (hZ : Zq x g W0 (fun u : RS => mW g a u) (qI (fun (r : Int32) (u : RS) => Q r u)) 0 0) (hK : ∀ (S_ : RS), K S_ → St x 0 0 (mW g a S_) [(0, .ref (a 50))] [] 199) : ∀ (n : Nat) (v1 : Int32) (S : RS), fX6_isObeyed_166 N K Q n v1 S → St x 0 0 (mW g a S) [(0, .ref (a 50)), (1, .int v1)] [] 166 := by
  intro n
  induction n with
  | zero => intro v1 S h; exact False.elim h
  | succ n ih => intro v1 S h; exact wfX6_isObeyed_166b C hZ ih hK h
def fX6_isObeyed (N : Nat) (S : RS) (Q : Int32 → RS → Prop) : Prop :=
  (fX6_isObeyed_2 N S ((∀ S13 : RS, S13 = sI S 16 0 → (fX6_isObeyed_76 N (fun S28 => (fX6_findSafe N S28 (fun  S29 => (vp_in 0 1024 ∧ ((¬ (S29.2.1 19 (0 : Int32).toNatClampNeg) = 0 → (vp_in 0 1024 ∧ (narrow .boolean (.int (S29.2.1 19 (0 : Int32).toNatClampNeg)) = .int (S29.2.1 19 (0 : Int32).toNatClampNeg) ∧ Q (S29.2.1 19 (0 : Int32).toNatClampNeg) S29))) ∧ ((S29.2.1 19 (0 : Int32).toNatClampNeg) = 0 → (fX6_isObeyed_166 N (fun S38 => (∀ S39 : RS, S39 = sI S38 29 ((S38.1 29) + (1 : Int32)) → (vp_in 0 1024 ∧ (narrow .boolean (.int (S39.2.1 19 (0 : Int32).toNatClampNeg)) = .int (S39.2.1 19 (0 : Int32).toNatClampNeg) ∧ Q (S39.2.1 19 (0 : Int32).toNatClampNeg) S39)))) Q N 0 S29))))))) Q N 0 S13))) Q N 0)
set_option maxRecDepth 100000 in
set_option maxHeartbeats 4000000 in
theorem tX6_isObeyed (l : Launch) (g : Gx) (a : Nat → Nat) (S : RS) (N : Nat) (Q : Int32 → RS → Prop) (h : fX6_isObeyed N S Q) : MetG l g yX6_isObeyed wsX6_isObeyed rmX6_isObeyed [.ref (a 50)] (mW g a S) (fun u : RS => mW g a u) (qI (fun (r : Int32) (u : RS) => Q r u)) 0 0 := by
  refine met_of (cc := cX6_isObeyed) (own := RX6) (nL := 4) (ret := (some .boolean)) (lv := [(0, .ref (a 50))]) (by decide) rfl rfl (Nat.le_of_ble_eq_true rfl) rfl ?_
  intro x C hl hZ
  subst hl
  unfold fX6_isObeyed at h
  refine r_iconst (v := 0) C dX6_isObeyed_0 (by decide) ?_
  refine r_istore_n (lv' := [(0, .ref (a 50)), (1, .int 0)]) C dX6_isObeyed_1 [some 0, none] (by decide) rfl rfl ?_
  refine wfX6_isObeyed_2 C hZ (fun h => ?_) N _ h
  refine r_aload_n C dX6_isObeyed_69 rfl ?_
  refine r_iconst (v := 0) C dX6_isObeyed_70 (by decide) ?_
  obtain ⟨S13, hS13⟩ : ∃ z : RS, z = sI S 16 0 := ⟨_, rfl⟩
  have h := h S13 hS13
  refine r_put (cn := RX6) (T := TX6) (N := 43) (ci := 6) (ws' := mW g a S13) C uwX6_isObeyed_6 tyX6 tyX6_ok nmX6 0 rfl rfl 16 (by decide) kwX6_isObeyed_5 rfl rfl rfl (Nat.le_of_ble_eq_true rfl) dX6_isObeyed_71 (by rw [hS13]; rfl) ?_
  refine r_iconst (v := 0) C dX6_isObeyed_74 (by decide) ?_
  refine r_istore_n (lv' := [(0, .ref (a 50)), (1, .int 0)]) C dX6_isObeyed_75 [some 0, none] (by decide) rfl rfl ?_
  refine wfX6_isObeyed_76 C hZ (fun S28 h => ?_) N _ _ h
  refine r_aload_n C dX6_isObeyed_151 rfl ?_
  refine callW_V C (run_V (As := []) (rest := []) (ci := 6) C hZ.2.2 (tX6_findSafe _ g a S28 N _ h) gX6_isObeyed_X6_findSafe rfl dsX6_findSafe rfl rfl ⟨(Nat.le_of_ble_eq_true rfl), (Nat.le_of_ble_eq_true rfl)⟩ rfl (List.mem_of_getElem? (i := 0) rfl) rfl (Nat.le_of_ble_eq_true rfl) dX6_isObeyed_152 ⟨Nat.zero_le _, Nat.zero_le _⟩) (fun S29 h => ?_)
  show St x 0 0 (mW g a S29) _ _ 155
  refine r_aload_n C dX6_isObeyed_155 rfl ?_
  refine r_get (cn := RX6) (T := TX6) (N := 43) (ci := 6) C uwX6_isObeyed_6 0 rfl rfl 19 (by decide) kwX6_isObeyed_9 (v := .ref (a 19)) rfl dX6_isObeyed_156 ?_
  refine r_iconst (v := 0) C dX6_isObeyed_159 (by decide) ?_
  obtain ⟨hi30, h⟩ := h
  refine r_zald C 15 rfl hi30 dX6_isObeyed_160 ?_
  refine r_if_ne (tgt := 209) C dX6_isObeyed_161 (by decide) (fun c31 => ?_) (fun c31 => ?_)
  · have h := h.1 c31
    refine r_aload_n C dX6_isObeyed_209 rfl ?_
    refine r_get (cn := RX6) (T := TX6) (N := 43) (ci := 6) C uwX6_isObeyed_6 0 rfl rfl 19 (by decide) kwX6_isObeyed_9 (v := .ref (a 19)) rfl dX6_isObeyed_210 ?_
    refine r_iconst (v := 0) C dX6_isObeyed_213 (by decide) ?_
    obtain ⟨hi32, h⟩ := h
    refine r_zald C 15 rfl hi32 dX6_isObeyed_214 ?_
    exact r_zret C hZ (u := S29) h.1 h.2 rfl dX6_isObeyed_215
  · have h := h.2 c31
    refine r_iconst (v := 0) C dX6_isObeyed_164 (by decide) ?_
    refine r_istore_n (lv' := [(0, .ref (a 50)), (1, .int 0)]) C dX6_isObeyed_165 [some 0, none] (by decide) rfl rfl ?_
    refine wfX6_isObeyed_166 C hZ (fun S38 h => ?_) N _ _ h
    refine r_aload_n C dX6_isObeyed_199 rfl ?_
    refine r_dup C dX6_isObeyed_200 rfl ?_
    refine r_get (cn := RX6) (T := TX6) (N := 43) (ci := 6) C uwX6_isObeyed_6 0 rfl rfl 29 (by decide) kwX6_isObeyed_0 (v := .int (S38.1 29)) rfl dX6_isObeyed_201 ?_
    refine r_iconst (v := 1) C dX6_isObeyed_204 (by decide) ?_
    refine r_iadd C dX6_isObeyed_205 ?_
    obtain ⟨S39, hS39⟩ : ∃ z : RS, z = sI S38 29 ((S38.1 29) + (1 : Int32)) := ⟨_, rfl⟩
    have h := h S39 hS39
    refine r_put (cn := RX6) (T := TX6) (N := 43) (ci := 6) (ws' := mW g a S39) C uwX6_isObeyed_6 tyX6 tyX6_ok nmX6 0 rfl rfl 29 (by decide) kwX6_isObeyed_0 rfl rfl rfl (Nat.le_of_ble_eq_true rfl) dX6_isObeyed_206 (by rw [hS39]; rfl) ?_
    refine r_aload_n C dX6_isObeyed_209 rfl ?_
    refine r_get (cn := RX6) (T := TX6) (N := 43) (ci := 6) C uwX6_isObeyed_6 0 rfl rfl 19 (by decide) kwX6_isObeyed_9 (v := .ref (a 19)) rfl dX6_isObeyed_210 ?_
    refine r_iconst (v := 0) C dX6_isObeyed_213 (by decide) ?_
    obtain ⟨hi40, h⟩ := h
    refine r_zald C 15 rfl hi40 dX6_isObeyed_214 ?_
    exact r_zret C hZ (u := S39) h.1 h.2 rfl dX6_isObeyed_215
theorem kwX6_go_0 : Cond.fieldLink RX6 220 "WantsBenchModel" "leastPrice" "I" ∈ wsX6_go := by decide +kernel
theorem uwX6_go_6 : ∀ w ∈ wsX60, w ∈ wsX6_go := by decide +kernel
theorem kwX6_go_2 : Cond.fieldLink RX6 217 "WantsBenchModel" "setMany" "I" ∈ wsX6_go := by decide +kernel
theorem kwX6_go_3 : Cond.fieldLink RX6 84 "WantsBenchModel" "setWants" "[I" ∈ wsX6_go := by decide +kernel
theorem kwX6_go_4 : Cond.fieldLink RX6 60 "WantsBenchModel" "trying" "[I" ∈ wsX6_go := by decide +kernel
theorem kwX6_go_5 : Cond.fieldLink RX6 32 "WantsBenchModel" "ease" "[I" ∈ wsX6_go := by decide +kernel
theorem kwX6_go_6 : Cond.fieldLink RX6 29 "WantsBenchModel" "worth" "[I" ∈ wsX6_go := by decide +kernel
theorem kwX6_go_7 : Cond.fieldLink RX6 63 "WantsBenchModel" "made" "[I" ∈ wsX6_go := by decide +kernel
def fX6_go_128 (Zgo : RS → Int32 → Int32 → (RS → Prop) → Prop) (N : Nat) (S : RS) (v1 : Int32) (v2 : Int32) (v3 : Int32) (v4 : Int32) (k1 : Int32) (k2 : Int32) (k3 : Int32) (R : Int32 → RS → Prop) (K : RS → Prop) (Q : RS → Prop) : Prop :=
  (Zgo S k1 (k2 + k3) (fun  S13 => (∀ x14 : Int32, x14 = v4 + 1 → R x14 S13)))
set_option maxRecDepth 100000 in
set_option maxHeartbeats 4000000 in
theorem wfX6_go_128 {x : Nx} {g : Gx} {W0 : va_W} {a : Nat → Nat} {S : RS} {Zgo : RS → Int32 → Int32 → (RS → Prop) → Prop} {N : Nat} {v1 : Int32} {v2 : Int32} {v3 : Int32} {v4 : Int32} {k1 : Int32} {k2 : Int32} {k3 : Int32} {R : Int32 → RS → Prop} {K : RS → Prop} {Q : RS → Prop} {rm : Room} (hF : 4 ≤ rm.frames ∧ 97 ≤ rm.locals ∧ rm.cells = 0 ∧ rm.slots = 0) (C : Cx x g cX6_go RX6 wsX6_go rm yX6_go none 5) (hZ : Zq x g W0 (fun u : RS => mW g a u) (qV (fun u : RS => Q u)) 0 0) {rmZgo : Room} (hRZgo : rmZgo.frames + 1 ≤ rm.frames ∧ 8 + (5 + 11) + rmZgo.locals ≤ rm.locals) (hzZgo : rmZgo.cells = 0 ∧ rmZgo.slots = 0) (hZgo : ∀ (S : RS) (i0 : Int32) (i1 : Int32) (Q : RS → Prop), Zgo S i0 i1 Q → MetG (xl x) g yX6_go wsX6_go rmZgo [.ref (a 50), .int i0, .int i1] (mW g a S) (fun u : RS => mW g a u) (qV (fun u : RS => Q u)) 0 0) (hR : ∀ (w4 : Int32) (S_ : RS), R w4 S_ → St x 0 0 (mW g a S_) [(0, .ref (a 50)), (1, .int v1), (2, .int v2), (3, .int v3), (4, .int w4)] [] 75) (hK : ∀ (S_ : RS), K S_ → St x 0 0 (mW g a S_) [] [] 138) (h : fX6_go_128 Zgo N S v1 v2 v3 v4 k1 k2 k3 R K Q) : St x 0 0 (mW g a S) [(0, .ref (a 50)), (1, .int v1), (2, .int v2), (3, .int v3), (4, .int v4)] [.int k3, .int k2, .int k1, .ref (a 50)] 128 := by
  unfold fX6_go_128 at h
  refine r_iadd C dX6_go_128 ?_
  refine callW_V C (run_V (As := [.int k1, .int (k2 + k3)]) (rest := []) (ci := 6) C hZ.2.2 (hZgo S k1 (k2 + k3) _ h) gX6_go_X6_go rfl dsX6_go hzZgo.1 hzZgo.2 hRZgo rfl (List.mem_of_getElem? (i := 0) rfl) rfl (Nat.le_of_ble_eq_true rfl) dX6_go_129 ⟨Nat.zero_le _, Nat.zero_le _⟩) (fun S13 h => ?_)
  show St x 0 0 (mW g a S13) _ _ 132
  obtain ⟨x14, ex14⟩ : ∃ z : Int32, z = v4 + 1 := ⟨_, rfl⟩
  have h := h x14 ex14
  refine r_iinc (v := x14) (lv' := [(0, .ref (a 50)), (1, .int v1), (2, .int v2), (3, .int v3), (4, .int x14)]) C dX6_go_132 rfl (by rw [ex14]; rfl) [some 0, some 1, some 2, some 3, none] (by decide) rfl rfl ?_
  refine r_goto (tgt := 75) C dX6_go_135 (by decide) ?_
  exact hR x14 S13 h
def fX6_go_75b (Zgo : RS → Int32 → Int32 → (RS → Prop) → Prop) (N : Nat) (S : RS) (v1 : Int32) (v2 : Int32) (v3 : Int32) (v4 : Int32) (R : Int32 → RS → Prop) (K : RS → Prop) (Q : RS → Prop) : Prop :=
  ((4 < v4 → K S) ∧ (¬ 4 < v4 → (fX6_mayBe N S v3 v4 (fun r6 => ((r6 = 0 → (∀ x8 : Int32, x8 = v4 + 1 → R x8 S)) ∧ (¬ r6 = 0 → (vp_in v1 5 ∧ (∀ S10 : RS, S10 = sA S 24 (upd (S.2.1 24) v1.toNatClampNeg v4) → ((¬ v4 = 4 → (vp_in v3 20 ∧ (fX6_go_128 Zgo N S10 v1 v2 v3 v4 (v1 + (1 : Int32)) v2 ((S10.2.1 9 v3.toNatClampNeg) * v4) R K Q))) ∧ (v4 = 4 → (vp_in v3 20 ∧ (fX6_go_128 Zgo N S10 v1 v2 v3 v4 (v1 + (1 : Int32)) v2 (S10.2.1 8 v3.toNatClampNeg) R K Q))))))))))))
set_option maxRecDepth 100000 in
set_option maxHeartbeats 4000000 in
theorem wfX6_go_75b {x : Nx} {g : Gx} {W0 : va_W} {a : Nat → Nat} {S : RS} {Zgo : RS → Int32 → Int32 → (RS → Prop) → Prop} {N : Nat} {v1 : Int32} {v2 : Int32} {v3 : Int32} {v4 : Int32} {R : Int32 → RS → Prop} {K : RS → Prop} {Q : RS → Prop} {rm : Room} (hF : 4 ≤ rm.frames ∧ 97 ≤ rm.locals ∧ rm.cells = 0 ∧ rm.slots = 0) (C : Cx x g cX6_go RX6 wsX6_go rm yX6_go none 5) (hZ : Zq x g W0 (fun u : RS => mW g a u) (qV (fun u : RS => Q u)) 0 0) {rmZgo : Room} (hRZgo : rmZgo.frames + 1 ≤ rm.frames ∧ 8 + (5 + 11) + rmZgo.locals ≤ rm.locals) (hzZgo : rmZgo.cells = 0 ∧ rmZgo.slots = 0) (hZgo : ∀ (S : RS) (i0 : Int32) (i1 : Int32) (Q : RS → Prop), Zgo S i0 i1 Q → MetG (xl x) g yX6_go wsX6_go rmZgo [.ref (a 50), .int i0, .int i1] (mW g a S) (fun u : RS => mW g a u) (qV (fun u : RS => Q u)) 0 0) (hR : ∀ (w4 : Int32) (S_ : RS), R w4 S_ → St x 0 0 (mW g a S_) [(0, .ref (a 50)), (1, .int v1), (2, .int v2), (3, .int v3), (4, .int w4)] [] 75) (hK : ∀ (S_ : RS), K S_ → St x 0 0 (mW g a S_) [] [] 138) (h : fX6_go_75b Zgo N S v1 v2 v3 v4 R K Q) : St x 0 0 (mW g a S) [(0, .ref (a 50)), (1, .int v1), (2, .int v2), (3, .int v3), (4, .int v4)] [] 75 := by
  unfold fX6_go_75b at h
  refine r_iload C dX6_go_75 rfl ?_
  refine r_iconst (v := 4) C dX6_go_77 (by decide) ?_
  refine r_icmp_gt (tgt := 138) C dX6_go_78 (by decide) (fun c5 => ?_) (fun c5 => ?_)
  · have h := h.1 c5
    refine r_sub [] (lv' := []) rfl ?_
    exact hK S h
  · have h := h.2 c5
    refine r_aload_n C dX6_go_81 rfl ?_
    refine r_iload_n C dX6_go_82 rfl ?_
    refine r_iload C dX6_go_83 rfl ?_
    refine callR_I C (run_V (As := [.int v3, .int v4]) (rest := []) (ci := 6) C hZ.2.2 (tX6_mayBe _ g a S N v3 v4 _ h) gX6_go_X6_mayBe rfl dsX6_mayBe rfl rfl ⟨Nat.le_trans (Nat.le_of_ble_eq_true rfl) hF.1, Nat.le_trans (Nat.le_of_ble_eq_true rfl) hF.2.1⟩ rfl (List.mem_of_getElem? (i := 0) rfl) rfl (Nat.le_of_ble_eq_true rfl) dX6_go_85 ⟨Nat.zero_le _, Nat.zero_le _⟩) (List.Sublist.refl _) (fun _ => rfl) (fun r6 _ h => ?_)
    refine r_if_eq (tgt := 132) C dX6_go_88 (by decide) (fun c7 => ?_) (fun c7 => ?_)
    · have h := h.1 c7
      obtain ⟨x8, ex8⟩ : ∃ z : Int32, z = v4 + 1 := ⟨_, rfl⟩
      have h := h x8 ex8
      refine r_iinc (v := x8) (lv' := [(0, .ref (a 50)), (1, .int v1), (2, .int v2), (3, .int v3), (4, .int x8)]) C dX6_go_132 rfl (by rw [ex8]; rfl) [some 0, some 1, some 2, some 3, none] (by decide) rfl rfl ?_
      refine r_goto (tgt := 75) C dX6_go_135 (by decide) ?_
      exact hR x8 S h
    · have h := h.2 c7
      refine r_aload_n C dX6_go_91 rfl ?_
      refine r_get (cn := RX6) (T := TX6) (N := 43) (ci := 6) C uwX6_go_6 0 rfl rfl 24 (by decide) kwX6_go_4 (v := .ref (a 24)) rfl dX6_go_92 ?_
      refine r_iload_n C dX6_go_95 rfl ?_
      refine r_iload C dX6_go_96 rfl ?_
      obtain ⟨hi9, h⟩ := h
      obtain ⟨S10, hS10⟩ : ∃ z : RS, z = sA S 24 (upd (S.2.1 24) v1.toNatClampNeg v4) := ⟨_, rfl⟩
      have h := h S10 hS10
      refine r_iast (ws' := mW g a S10) C 17 rfl hi9 dX6_go_98 (by rw [hS10]; rfl) ?_
      refine r_aload_n C dX6_go_99 rfl ?_
      refine r_iload_n C dX6_go_100 rfl ?_
      refine r_iconst (v := 1) C dX6_go_101 (by decide) ?_
      refine r_iadd C dX6_go_102 ?_
      refine r_iload_n C dX6_go_103 rfl ?_
      refine r_iload C dX6_go_104 rfl ?_
      refine r_iconst (v := 4) C dX6_go_106 (by decide) ?_
      refine r_icmp_ne (tgt := 119) C dX6_go_107 (by decide) (fun c11 => ?_) (fun c11 => ?_)
      · have h := h.1 c11
        refine r_aload_n C dX6_go_119 rfl ?_
        refine r_get (cn := RX6) (T := TX6) (N := 43) (ci := 6) C uwX6_go_6 0 rfl rfl 9 (by decide) kwX6_go_5 (v := .ref (a 9)) rfl dX6_go_120 ?_
        refine r_iload_n C dX6_go_123 rfl ?_
        obtain ⟨hi12, h⟩ := h
        refine r_iald C 8 rfl hi12 dX6_go_124 ?_
        refine r_iload C dX6_go_125 rfl ?_
        refine r_imul C dX6_go_127 ?_
        exact wfX6_go_128 hF C hZ hRZgo hzZgo hZgo hR hK h
      · have h := h.2 c11
        refine r_aload_n C dX6_go_110 rfl ?_
        refine r_get (cn := RX6) (T := TX6) (N := 43) (ci := 6) C uwX6_go_6 0 rfl rfl 8 (by decide) kwX6_go_6 (v := .ref (a 8)) rfl dX6_go_111 ?_
        refine r_iload_n C dX6_go_114 rfl ?_
        obtain ⟨hi15, h⟩ := h
        refine r_iald C 7 rfl hi15 dX6_go_115 ?_
        refine r_goto (tgt := 128) C dX6_go_116 (by decide) ?_
        exact wfX6_go_128 hF C hZ hRZgo hzZgo hZgo hR hK h
def fX6_go_75 (Zgo : RS → Int32 → Int32 → (RS → Prop) → Prop) (N : Nat) (v1 : Int32) (v2 : Int32) (v3 : Int32) (K : RS → Prop) (Q : RS → Prop) : Nat → Int32 → RS → Prop
  | 0, _, _ => False
  | n + 1, v4, S => fX6_go_75b Zgo N S v1 v2 v3 v4 (fun v4 S => fX6_go_75 Zgo N v1 v2 v3 K Q n v4 S) K Q
set_option maxRecDepth 100000 in
set_option maxHeartbeats 4000000 in
theorem wfX6_go_75 {x : Nx} {g : Gx} {W0 : va_W} {a : Nat → Nat}  {Zgo : RS → Int32 → Int32 → (RS → Prop) → Prop} {N : Nat} {v1 : Int32} {v2 : Int32} {v3 : Int32} {K : RS → Prop} {Q : RS → Prop} {rm : Room} (hF : 4 ≤ rm.frames ∧ 97 ≤ rm.locals ∧ rm.cells = 0 ∧ rm.slots = 0) (C : Cx x g cX6_go RX6 wsX6_go rm yX6_go none 5) (hZ : Zq x g W0 (fun u : RS => mW g a u) (qV (fun u : RS => Q u)) 0 0) {rmZgo : Room} (hRZgo : rmZgo.frames + 1 ≤ rm.frames ∧ 8 + (5 + 11) + rmZgo.locals ≤ rm.locals) (hzZgo : rmZgo.cells = 0 ∧ rmZgo.slots = 0) (hZgo : ∀ (S : RS) (i0 : Int32) (i1 : Int32) (Q : RS → Prop), Zgo S i0 i1 Q → MetG (xl x) g yX6_go wsX6_go rmZgo [.ref (a 50), .int i0, .int i1] (mW g a S) (fun u : RS => mW g a u) (qV (fun u : RS => Q u)) 0 0) (hK : ∀ (S_ : RS), K S_ → St x 0 0 (mW g a S_) [] [] 138) : ∀ (n : Nat) (v4 : Int32) (S : RS), fX6_go_75 Zgo N v1 v2 v3 K Q n v4 S → St x 0 0 (mW g a S) [(0, .ref (a 50)), (1, .int v1), (2, .int v2), (3, .int v3), (4, .int v4)] [] 75 := by
  intro n
  induction n with
  | zero => intro v4 S h; exact False.elim h
  | succ n ih => intro v4 S h; exact wfX6_go_75b hF C hZ hRZgo hzZgo hZgo ih hK h
def fX6_go_38b (Zgo : RS → Int32 → Int32 → (RS → Prop) → Prop) (N : Nat) (S : RS) (v3 : Int32) (R : Int32 → RS → Prop) (K : RS → Prop) (Q : RS → Prop) : Prop :=
  (((S.1 42) ≤ v3 → K S) ∧ (¬ (S.1 42) ≤ v3 → (vp_in v3 5 ∧ (vp_in v3 5 ∧ (∀ S24 : RS, S24 = sA S 25 (upd (S.2.1 25) v3.toNatClampNeg (S.2.1 24 v3.toNatClampNeg)) → (∀ x25 : Int32, x25 = v3 + 1 → R x25 S24))))))
set_option maxRecDepth 100000 in
set_option maxHeartbeats 4000000 in
theorem wfX6_go_38b {x : Nx} {g : Gx} {W0 : va_W} {a : Nat → Nat} {S : RS} {Zgo : RS → Int32 → Int32 → (RS → Prop) → Prop} {N : Nat} {v3 : Int32} {R : Int32 → RS → Prop} {K : RS → Prop} {Q : RS → Prop} {rm : Room} (hF : 4 ≤ rm.frames ∧ 97 ≤ rm.locals ∧ rm.cells = 0 ∧ rm.slots = 0) (C : Cx x g cX6_go RX6 wsX6_go rm yX6_go none 5) (hZ : Zq x g W0 (fun u : RS => mW g a u) (qV (fun u : RS => Q u)) 0 0) {rmZgo : Room} (hRZgo : rmZgo.frames + 1 ≤ rm.frames ∧ 8 + (5 + 11) + rmZgo.locals ≤ rm.locals) (hzZgo : rmZgo.cells = 0 ∧ rmZgo.slots = 0) (hZgo : ∀ (S : RS) (i0 : Int32) (i1 : Int32) (Q : RS → Prop), Zgo S i0 i1 Q → MetG (xl x) g yX6_go wsX6_go rmZgo [.ref (a 50), .int i0, .int i1] (mW g a S) (fun u : RS => mW g a u) (qV (fun u : RS => Q u)) 0 0) (hR : ∀ (w3 : Int32) (S_ : RS), R w3 S_ → St x 0 0 (mW g a S_) [(0, .ref (a 50)), (3, .int w3)] [] 38) (hK : ∀ (S_ : RS), K S_ → St x 0 0 (mW g a S_) [] [] 64) (h : fX6_go_38b Zgo N S v3 R K Q) : St x 0 0 (mW g a S) [(0, .ref (a 50)), (3, .int v3)] [] 38 := by
  unfold fX6_go_38b at h
  refine r_iload_n C dX6_go_38 rfl ?_
  refine r_aload_n C dX6_go_39 rfl ?_
  refine r_get (cn := RX6) (T := TX6) (N := 43) (ci := 6) C uwX6_go_6 0 rfl rfl 42 (by decide) kwX6_go_2 (v := .int (S.1 42)) rfl dX6_go_40 ?_
  refine r_icmp_ge (tgt := 64) C dX6_go_43 (by decide) (fun c21 => ?_) (fun c21 => ?_)
  · have h := h.1 c21
    refine r_sub [] (lv' := []) rfl ?_
    exact hK S h
  · have h := h.2 c21
    refine r_aload_n C dX6_go_46 rfl ?_
    refine r_get (cn := RX6) (T := TX6) (N := 43) (ci := 6) C uwX6_go_6 0 rfl rfl 25 (by decide) kwX6_go_7 (v := .ref (a 25)) rfl dX6_go_47 ?_
    refine r_iload_n C dX6_go_50 rfl ?_
    refine r_aload_n C dX6_go_51 rfl ?_
    refine r_get (cn := RX6) (T := TX6) (N := 43) (ci := 6) C uwX6_go_6 0 rfl rfl 24 (by decide) kwX6_go_4 (v := .ref (a 24)) rfl dX6_go_52 ?_
    refine r_iload_n C dX6_go_55 rfl ?_
    obtain ⟨hi22, h⟩ := h
    refine r_iald C 17 rfl hi22 dX6_go_56 ?_
    obtain ⟨hi23, h⟩ := h
    obtain ⟨S24, hS24⟩ : ∃ z : RS, z = sA S 25 (upd (S.2.1 25) v3.toNatClampNeg (S.2.1 24 v3.toNatClampNeg)) := ⟨_, rfl⟩
    have h := h S24 hS24
    refine r_iast (ws' := mW g a S24) C 18 rfl hi23 dX6_go_57 (by rw [hS24]; rfl) ?_
    obtain ⟨x25, ex25⟩ : ∃ z : Int32, z = v3 + 1 := ⟨_, rfl⟩
    have h := h x25 ex25
    refine r_iinc (v := x25) (lv' := [(0, .ref (a 50)), (3, .int x25)]) C dX6_go_58 rfl (by rw [ex25]; rfl) [some 0, none] (by decide) rfl rfl ?_
    refine r_goto (tgt := 38) C dX6_go_61 (by decide) ?_
    exact hR x25 S24 h
def fX6_go_38 (Zgo : RS → Int32 → Int32 → (RS → Prop) → Prop) (N : Nat) (K : RS → Prop) (Q : RS → Prop) : Nat → Int32 → RS → Prop
  | 0, _, _ => False
  | n + 1, v3, S => fX6_go_38b Zgo N S v3 (fun v3 S => fX6_go_38 Zgo N K Q n v3 S) K Q
set_option maxRecDepth 100000 in
set_option maxHeartbeats 4000000 in
theorem wfX6_go_38 {x : Nx} {g : Gx} {W0 : va_W} {a : Nat → Nat}  {Zgo : RS → Int32 → Int32 → (RS → Prop) → Prop} {N : Nat} {K : RS → Prop} {Q : RS → Prop} {rm : Room} (hF : 4 ≤ rm.frames ∧ 97 ≤ rm.locals ∧ rm.cells = 0 ∧ rm.slots = 0) (C : Cx x g cX6_go RX6 wsX6_go rm yX6_go none 5) (hZ : Zq x g W0 (fun u : RS => mW g a u) (qV (fun u : RS => Q u)) 0 0) {rmZgo : Room} (hRZgo : rmZgo.frames + 1 ≤ rm.frames ∧ 8 + (5 + 11) + rmZgo.locals ≤ rm.locals) (hzZgo : rmZgo.cells = 0 ∧ rmZgo.slots = 0) (hZgo : ∀ (S : RS) (i0 : Int32) (i1 : Int32) (Q : RS → Prop), Zgo S i0 i1 Q → MetG (xl x) g yX6_go wsX6_go rmZgo [.ref (a 50), .int i0, .int i1] (mW g a S) (fun u : RS => mW g a u) (qV (fun u : RS => Q u)) 0 0) (hK : ∀ (S_ : RS), K S_ → St x 0 0 (mW g a S_) [] [] 64) : ∀ (n : Nat) (v3 : Int32) (S : RS), fX6_go_38 Zgo N K Q n v3 S → St x 0 0 (mW g a S) [(0, .ref (a 50)), (3, .int v3)] [] 38 := by
  intro n
  induction n with
  | zero => intro v3 S h; exact False.elim h
  | succ n ih => intro v3 S h; exact wfX6_go_38b hF C hZ hRZgo hzZgo hZgo ih hK h
def fX6_go_16 (Zgo : RS → Int32 → Int32 → (RS → Prop) → Prop) (N : Nat) (S : RS) (v1 : Int32) (v2 : Int32) (Q : RS → Prop) : Prop :=
  ((¬ v1 = (S.1 42) → (vp_in v1 5 ∧ (∀ x4 : Int32, x4 = S.2.1 41 v1.toNatClampNeg → (fX6_go_75 Zgo N v1 v2 x4 (fun S16 => Q S16) Q N 0 S)))) ∧ (v1 = (S.1 42) → (fX6_isObeyed N S (fun r17 S18 => ((r17 = 0 → Q S18) ∧ (¬ r17 = 0 → (∀ S20 : RS, S20 = sI S18 27 v2 → (fX6_go_38 Zgo N (fun S26 => Q S26) Q N 0 S20))))))))
set_option maxRecDepth 100000 in
set_option maxHeartbeats 4000000 in
theorem wfX6_go_16 {x : Nx} {g : Gx} {W0 : va_W} {a : Nat → Nat} {S : RS} {Zgo : RS → Int32 → Int32 → (RS → Prop) → Prop} {N : Nat} {v1 : Int32} {v2 : Int32} {Q : RS → Prop} {rm : Room} (hF : 4 ≤ rm.frames ∧ 97 ≤ rm.locals ∧ rm.cells = 0 ∧ rm.slots = 0) (C : Cx x g cX6_go RX6 wsX6_go rm yX6_go none 5) (hZ : Zq x g W0 (fun u : RS => mW g a u) (qV (fun u : RS => Q u)) 0 0) {rmZgo : Room} (hRZgo : rmZgo.frames + 1 ≤ rm.frames ∧ 8 + (5 + 11) + rmZgo.locals ≤ rm.locals) (hzZgo : rmZgo.cells = 0 ∧ rmZgo.slots = 0) (hZgo : ∀ (S : RS) (i0 : Int32) (i1 : Int32) (Q : RS → Prop), Zgo S i0 i1 Q → MetG (xl x) g yX6_go wsX6_go rmZgo [.ref (a 50), .int i0, .int i1] (mW g a S) (fun u : RS => mW g a u) (qV (fun u : RS => Q u)) 0 0) (h : fX6_go_16 Zgo N S v1 v2 Q) : St x 0 0 (mW g a S) [(0, .ref (a 50)), (1, .int v1), (2, .int v2)] [] 16 := by
  unfold fX6_go_16 at h
  refine r_iload_n C dX6_go_16 rfl ?_
  refine r_aload_n C dX6_go_17 rfl ?_
  refine r_get (cn := RX6) (T := TX6) (N := 43) (ci := 6) C uwX6_go_6 0 rfl rfl 42 (by decide) kwX6_go_2 (v := .int (S.1 42)) rfl dX6_go_18 ?_
  refine r_icmp_ne (tgt := 65) C dX6_go_21 (by decide) (fun c2 => ?_) (fun c2 => ?_)
  · have h := h.1 c2
    refine r_aload_n C dX6_go_65 rfl ?_
    refine r_get (cn := RX6) (T := TX6) (N := 43) (ci := 6) C uwX6_go_6 0 rfl rfl 41 (by decide) kwX6_go_3 (v := .ref (a 41)) rfl dX6_go_66 ?_
    refine r_iload_n C dX6_go_69 rfl ?_
    obtain ⟨hi3, h⟩ := h
    refine r_iald C 25 rfl hi3 dX6_go_70 ?_
    refine r_topi (fun x4 ex4 => ?_)
    have h := h x4 ex4
    refine r_istore_n (lv' := [(0, .ref (a 50)), (1, .int v1), (2, .int v2), (3, .int x4)]) C dX6_go_71 [some 0, some 1, some 2, none] (by decide) rfl rfl ?_
    refine r_iconst (v := 0) C dX6_go_72 (by decide) ?_
    refine r_istore (lv' := [(0, .ref (a 50)), (1, .int v1), (2, .int v2), (3, .int x4), (4, .int 0)]) C dX6_go_73 [some 0, some 1, some 2, some 3, none] (by decide) rfl rfl ?_
    refine wfX6_go_75 hF C hZ hRZgo hzZgo hZgo (fun S16 h => ?_) N _ _ h
    exact r_vret C hZ (u := S16) h rfl dX6_go_138
  · have h := h.2 c2
    refine r_aload_n C dX6_go_24 rfl ?_
    refine callW_I C (run_V (As := []) (rest := []) (ci := 6) C hZ.2.2 (tX6_isObeyed _ g a S N _ h) gX6_go_X6_isObeyed rfl dsX6_isObeyed rfl rfl ⟨Nat.le_trans (Nat.le_of_ble_eq_true rfl) hF.1, Nat.le_trans (Nat.le_of_ble_eq_true rfl) hF.2.1⟩ rfl (List.mem_of_getElem? (i := 0) rfl) rfl (Nat.le_of_ble_eq_true rfl) dX6_go_25 ⟨Nat.zero_le _, Nat.zero_le _⟩) (fun r17 S18 h => ?_)
    show St x 0 0 (mW g a S18) _ _ 28
    refine r_if_eq (tgt := 64) C dX6_go_28 (by decide) (fun c19 => ?_) (fun c19 => ?_)
    · have h := h.1 c19
      exact r_vret C hZ (u := S18) h rfl dX6_go_64
    · have h := h.2 c19
      refine r_aload_n C dX6_go_31 rfl ?_
      refine r_iload_n C dX6_go_32 rfl ?_
      obtain ⟨S20, hS20⟩ : ∃ z : RS, z = sI S18 27 v2 := ⟨_, rfl⟩
      have h := h S20 hS20
      refine r_put (cn := RX6) (T := TX6) (N := 43) (ci := 6) (ws' := mW g a S20) C uwX6_go_6 tyX6 tyX6_ok nmX6 0 rfl rfl 27 (by decide) kwX6_go_0 rfl rfl rfl (Nat.le_of_ble_eq_true rfl) dX6_go_33 (by rw [hS20]; rfl) ?_
      refine r_iconst (v := 0) C dX6_go_36 (by decide) ?_
      refine r_istore_n (lv' := [(0, .ref (a 50)), (3, .int 0)]) C dX6_go_37 [some 0, none] (by decide) rfl rfl ?_
      refine wfX6_go_38 hF C hZ hRZgo hzZgo hZgo (fun S26 h => ?_) N _ _ h
      exact r_vret C hZ (u := S26) h rfl dX6_go_64
def bX6_go (Zgo : RS → Int32 → Int32 → (RS → Prop) → Prop) (N : Nat) (S : RS) (v1 : Int32) (v2 : Int32) (Q : RS → Prop) : Prop :=
  (((S.1 27) < 0 → (fX6_go_16 Zgo N S v1 v2 Q)) ∧ (¬ (S.1 27) < 0 → ((v2 < (S.1 27) → (fX6_go_16 Zgo N S v1 v2 Q)) ∧ (¬ v2 < (S.1 27) → Q S))))
set_option maxRecDepth 100000 in
set_option maxHeartbeats 4000000 in
theorem tbX6_go (l : Launch) (g : Gx) (a : Nat → Nat) (S : RS) {Zgo : RS → Int32 → Int32 → (RS → Prop) → Prop} (N : Nat) (v1 : Int32) (v2 : Int32) (Q : RS → Prop) {rm : Room} (hF : 4 ≤ rm.frames ∧ 97 ≤ rm.locals ∧ rm.cells = 0 ∧ rm.slots = 0) {rmZgo : Room} (hRZgo : rmZgo.frames + 1 ≤ rm.frames ∧ 8 + (5 + 11) + rmZgo.locals ≤ rm.locals) (hzZgo : rmZgo.cells = 0 ∧ rmZgo.slots = 0) (hZgo : ∀ (S : RS) (i0 : Int32) (i1 : Int32) (Q : RS → Prop), Zgo S i0 i1 Q → MetG l g yX6_go wsX6_go rmZgo [.ref (a 50), .int i0, .int i1] (mW g a S) (fun u : RS => mW g a u) (qV (fun u : RS => Q u)) 0 0) (h : bX6_go Zgo N S v1 v2 Q) : MetG l g yX6_go wsX6_go rm [.ref (a 50), .int v1, .int v2] (mW g a S) (fun u : RS => mW g a u) (qV (fun u : RS => Q u)) 0 0 := by
  refine met_of (cc := cX6_go) (own := RX6) (nL := 5) (ret := none) (lv := [(0, .ref (a 50)), (1, .int v1), (2, .int v2)]) (by decide) rfl rfl (Nat.le_of_ble_eq_true rfl) rfl ?_
  intro x C hl hZ
  subst hl
  unfold bX6_go at h
  refine r_aload_n C dX6_go_0 rfl ?_
  refine r_get (cn := RX6) (T := TX6) (N := 43) (ci := 6) C uwX6_go_6 0 rfl rfl 27 (by decide) kwX6_go_0 (v := .int (S.1 27)) rfl dX6_go_1 ?_
  refine r_if_lt (tgt := 16) C dX6_go_4 (by decide) (fun c1 => ?_) (fun c1 => ?_)
  · have h := h.1 c1
    exact wfX6_go_16 hF C hZ hRZgo hzZgo hZgo h
  · have h := h.2 c1
    refine r_iload_n C dX6_go_7 rfl ?_
    refine r_aload_n C dX6_go_8 rfl ?_
    refine r_get (cn := RX6) (T := TX6) (N := 43) (ci := 6) C uwX6_go_6 0 rfl rfl 27 (by decide) kwX6_go_0 (v := .int (S.1 27)) rfl dX6_go_9 ?_
    refine r_icmp_lt (tgt := 16) C dX6_go_12 (by decide) (fun c27 => ?_) (fun c27 => ?_)
    · have h := h.1 c27
      exact wfX6_go_16 hF C hZ hRZgo hzZgo hZgo h
    · have h := h.2 c27
      exact r_vret C hZ (u := S) h rfl dX6_go_15
def gX6go (N : Nat) : Nat → RS → Int32 → Int32 → (RS → Prop) → Prop
  | 0, _, _, _, _ => False
  | dn + 1, S, i0, i1, Q => bX6_go (gX6go N dn) N S i0 i1 Q
set_option maxRecDepth 100000 in
set_option maxHeartbeats 4000000 in
theorem gX6go_met (l : Launch) (g : Gx) (a : Nat → Nat) (N : Nat) : ∀ dn : Nat, (∀ (S : RS) (v1 : Int32) (v2 : Int32) (Q : RS → Prop), gX6go N dn S v1 v2 Q → MetG l g yX6_go wsX6_go (rmR dn) [.ref (a 50), .int v1, .int v2] (mW g a S) (fun u : RS => mW g a u) (qV (fun u : RS => Q u)) 0 0) := by
  intro dn
  induction dn with
  | zero => exact fun _ _ _ _ h => False.elim h
  | succ dn ih => exact fun S v1 v2 Q h => tbX6_go l g a S N v1 v2 Q (Zgo := (gX6go N dn)) (rmR_F (dn + 1) 4 97 (by decide) (by decide)) (rmR_ok dn 5 (by decide)) ⟨rfl, rfl⟩ (fun S v1 v2 Q h => ih S v1 v2 Q h) h
def fX6_go (N : Nat) (S : RS) (v1 : Int32) (v2 : Int32) (Q : RS → Prop) : Prop := gX6go N 6 S v1 v2 Q
def rmX6_go : Room := rmR 6
theorem tX6_go (l : Launch) (g : Gx) (a : Nat → Nat) (S : RS) (N : Nat) (v1 : Int32) (v2 : Int32) (Q : RS → Prop) (h : fX6_go N S v1 v2 Q) : MetG l g yX6_go wsX6_go rmX6_go [.ref (a 50), .int v1, .int v2] (mW g a S) (fun u : RS => mW g a u) (qV (fun u : RS => Q u)) 0 0 := (gX6go_met l g a N 6) S v1 v2 Q h
def rmX6_peace : Room := { frames := 17, cells := 0, slots := 0, locals := 664 }
theorem kwX6_peace_0 : Cond.fieldLink RX6 217 "WantsBenchModel" "setMany" "I" ∈ wsX6_peace := by decide +kernel
theorem uwX6_peace_6 : ∀ w ∈ wsX60, w ∈ wsX6_peace := by decide +kernel
theorem kwX6_peace_2 : Cond.fieldLink RX6 87 "WantsBenchModel" "wants" "I" ∈ wsX6_peace := by decide +kernel
theorem kwX6_peace_3 : Cond.fieldLink RX6 84 "WantsBenchModel" "setWants" "[I" ∈ wsX6_peace := by decide +kernel
theorem kwX6_peace_4 : Cond.fieldLink RX6 214 "WantsBenchModel" "failures" "I" ∈ wsX6_peace := by decide +kernel
theorem kwX6_peace_5 : Cond.fieldLink RX6 220 "WantsBenchModel" "leastPrice" "I" ∈ wsX6_peace := by decide +kernel
theorem kwX6_peace_6 : Cond.fieldLink RX6 232 "WantsBenchModel" "madeSet" "I" ∈ wsX6_peace := by decide +kernel
def fX6_peace_18b (N : Nat) (S : RS) (v1 : Int32) (v2 : Int32) (R : Int32 → RS → Prop) (K : RS → Prop) (Q : Int32 → RS → Prop) : Prop :=
  (((S.1 13) ≤ v2 → K S) ∧ (¬ (S.1 13) ≤ v2 → ((¬ ((v1 >>> (v2 &&& 31)) &&& (1 : Int32)) = 1 → (∀ x6 : Int32, x6 = v2 + 1 → R x6 S)) ∧ (((v1 >>> (v2 &&& 31)) &&& (1 : Int32)) = 1 → (vp_in (S.1 42) 5 ∧ (∀ S8 : RS, S8 = sA S 41 (upd (S.2.1 41) (S.1 42).toNatClampNeg v2) → (∀ S9 : RS, S9 = sI S8 42 ((S8.1 42) + (1 : Int32)) → (∀ x10 : Int32, x10 = v2 + 1 → R x10 S9))))))))
set_option maxRecDepth 100000 in
set_option maxHeartbeats 4000000 in
theorem wfX6_peace_18b {x : Nx} {g : Gx} {W0 : va_W} {a : Nat → Nat} {S : RS} {N : Nat} {v1 : Int32} {v2 : Int32} {R : Int32 → RS → Prop} {K : RS → Prop} {Q : Int32 → RS → Prop} (C : Cx x g cX6_peace RX6 wsX6_peace rmX6_peace yX6_peace (some .int) 3) (hZ : Zq x g W0 (fun u : RS => mW g a u) (qI (fun (r : Int32) (u : RS) => Q r u)) 0 0) (hR : ∀ (w2 : Int32) (S_ : RS), R w2 S_ → St x 0 0 (mW g a S_) [(0, .ref (a 50)), (1, .int v1), (2, .int w2)] [] 18) (hK : ∀ (S_ : RS), K S_ → St x 0 0 (mW g a S_) [(0, .ref (a 50)), (1, .int v1)] [] 61) (h : fX6_peace_18b N S v1 v2 R K Q) : St x 0 0 (mW g a S) [(0, .ref (a 50)), (1, .int v1), (2, .int v2)] [] 18 := by
  unfold fX6_peace_18b at h
  refine r_iload_n C dX6_peace_18 rfl ?_
  refine r_aload_n C dX6_peace_19 rfl ?_
  refine r_get (cn := RX6) (T := TX6) (N := 43) (ci := 6) C uwX6_peace_6 0 rfl rfl 13 (by decide) kwX6_peace_2 (v := .int (S.1 13)) rfl dX6_peace_20 ?_
  refine r_icmp_ge (tgt := 61) C dX6_peace_23 (by decide) (fun c4 => ?_) (fun c4 => ?_)
  · have h := h.1 c4
    refine r_sub [0, 1] (lv' := [(0, .ref (a 50)), (1, .int v1)]) rfl ?_
    exact hK S h
  · have h := h.2 c4
    refine r_iload_n C dX6_peace_26 rfl ?_
    refine r_iload_n C dX6_peace_27 rfl ?_
    refine r_ishr C dX6_peace_28 ?_
    refine r_iconst (v := 1) C dX6_peace_29 (by decide) ?_
    refine r_iand C dX6_peace_30 ?_
    refine r_iconst (v := 1) C dX6_peace_31 (by decide) ?_
    refine r_icmp_ne (tgt := 55) C dX6_peace_32 (by decide) (fun c5 => ?_) (fun c5 => ?_)
    · have h := h.1 c5
      obtain ⟨x6, ex6⟩ : ∃ z : Int32, z = v2 + 1 := ⟨_, rfl⟩
      have h := h x6 ex6
      refine r_iinc (v := x6) (lv' := [(0, .ref (a 50)), (1, .int v1), (2, .int x6)]) C dX6_peace_55 rfl (by rw [ex6]; rfl) [some 0, some 1, none] (by decide) rfl rfl ?_
      refine r_goto (tgt := 18) C dX6_peace_58 (by decide) ?_
      exact hR x6 S h
    · have h := h.2 c5
      refine r_aload_n C dX6_peace_35 rfl ?_
      refine r_get (cn := RX6) (T := TX6) (N := 43) (ci := 6) C uwX6_peace_6 0 rfl rfl 41 (by decide) kwX6_peace_3 (v := .ref (a 41)) rfl dX6_peace_36 ?_
      refine r_aload_n C dX6_peace_39 rfl ?_
      refine r_get (cn := RX6) (T := TX6) (N := 43) (ci := 6) C uwX6_peace_6 0 rfl rfl 42 (by decide) kwX6_peace_0 (v := .int (S.1 42)) rfl dX6_peace_40 ?_
      refine r_iload_n C dX6_peace_43 rfl ?_
      obtain ⟨hi7, h⟩ := h
      obtain ⟨S8, hS8⟩ : ∃ z : RS, z = sA S 41 (upd (S.2.1 41) (S.1 42).toNatClampNeg v2) := ⟨_, rfl⟩
      have h := h S8 hS8
      refine r_iast (ws' := mW g a S8) C 25 rfl hi7 dX6_peace_44 (by rw [hS8]; rfl) ?_
      refine r_aload_n C dX6_peace_45 rfl ?_
      refine r_dup C dX6_peace_46 rfl ?_
      refine r_get (cn := RX6) (T := TX6) (N := 43) (ci := 6) C uwX6_peace_6 0 rfl rfl 42 (by decide) kwX6_peace_0 (v := .int (S8.1 42)) rfl dX6_peace_47 ?_
      refine r_iconst (v := 1) C dX6_peace_50 (by decide) ?_
      refine r_iadd C dX6_peace_51 ?_
      obtain ⟨S9, hS9⟩ : ∃ z : RS, z = sI S8 42 ((S8.1 42) + (1 : Int32)) := ⟨_, rfl⟩
      have h := h S9 hS9
      refine r_put (cn := RX6) (T := TX6) (N := 43) (ci := 6) (ws' := mW g a S9) C uwX6_peace_6 tyX6 tyX6_ok nmX6 0 rfl rfl 42 (by decide) kwX6_peace_0 rfl rfl rfl (Nat.le_of_ble_eq_true rfl) dX6_peace_52 (by rw [hS9]; rfl) ?_
      obtain ⟨x10, ex10⟩ : ∃ z : Int32, z = v2 + 1 := ⟨_, rfl⟩
      have h := h x10 ex10
      refine r_iinc (v := x10) (lv' := [(0, .ref (a 50)), (1, .int v1), (2, .int x10)]) C dX6_peace_55 rfl (by rw [ex10]; rfl) [some 0, some 1, none] (by decide) rfl rfl ?_
      refine r_goto (tgt := 18) C dX6_peace_58 (by decide) ?_
      exact hR x10 S9 h
def fX6_peace_18 (N : Nat) (v1 : Int32) (K : RS → Prop) (Q : Int32 → RS → Prop) : Nat → Int32 → RS → Prop
  | 0, _, _ => False
  | n + 1, v2, S => fX6_peace_18b N S v1 v2 (fun v2 S => fX6_peace_18 N v1 K Q n v2 S) K Q
set_option maxRecDepth 100000 in
set_option maxHeartbeats 4000000 in
theorem wfX6_peace_18 {x : Nx} {g : Gx} {W0 : va_W} {a : Nat → Nat}  {N : Nat} {v1 : Int32} {K : RS → Prop} {Q : Int32 → RS → Prop} (C : Cx x g cX6_peace RX6 wsX6_peace rmX6_peace yX6_peace (some .int) 3) (hZ : Zq x g W0 (fun u : RS => mW g a u) (qI (fun (r : Int32) (u : RS) => Q r u)) 0 0) (hK : ∀ (S_ : RS), K S_ → St x 0 0 (mW g a S_) [(0, .ref (a 50)), (1, .int v1)] [] 61) : ∀ (n : Nat) (v2 : Int32) (S : RS), fX6_peace_18 N v1 K Q n v2 S → St x 0 0 (mW g a S) [(0, .ref (a 50)), (1, .int v1), (2, .int v2)] [] 18 := by
  intro n
  induction n with
  | zero => intro v2 S h; exact False.elim h
  | succ n ih => intro v2 S h; exact wfX6_peace_18b C hZ ih hK h
def fX6_peace (N : Nat) (S : RS) (v1 : Int32) (Q : Int32 → RS → Prop) : Prop :=
  (fX6_isSet N S v1 4 (fun r1 => ((¬ r1 = 0 → (∀ S3 : RS, S3 = sI S 42 0 → (fX6_peace_18 N v1 (fun S11 => (∀ S12 : RS, S12 = sI S11 29 0 → (∀ S13 : RS, S13 = sI S12 27 (-1) → (fX6_go N S13 0 0 (fun  S14 => (∀ S15 : RS, S15 = sI S14 26 v1 → Q (S15.1 27) S15)))))) Q N 0 S3))) ∧ (r1 = 0 → Q (-1) S))))
set_option maxRecDepth 100000 in
set_option maxHeartbeats 4000000 in
theorem tX6_peace (l : Launch) (g : Gx) (a : Nat → Nat) (S : RS) (N : Nat) (v1 : Int32) (Q : Int32 → RS → Prop) (h : fX6_peace N S v1 Q) : MetG l g yX6_peace wsX6_peace rmX6_peace [.ref (a 50), .int v1] (mW g a S) (fun u : RS => mW g a u) (qI (fun (r : Int32) (u : RS) => Q r u)) 0 0 := by
  refine met_of (cc := cX6_peace) (own := RX6) (nL := 3) (ret := (some .int)) (lv := [(0, .ref (a 50)), (1, .int v1)]) (by decide) rfl rfl (Nat.le_of_ble_eq_true rfl) rfl ?_
  intro x C hl hZ
  subst hl
  unfold fX6_peace at h
  refine r_aload_n C dX6_peace_0 rfl ?_
  refine r_iload_n C dX6_peace_1 rfl ?_
  refine r_iconst (v := 4) C dX6_peace_2 (by decide) ?_
  refine callR_I C (run_V (As := [.int v1, .int 4]) (rest := []) (ci := 6) C hZ.2.2 (tX6_isSet _ g a S N v1 4 _ h) gX6_peace_X6_isSet rfl dsX6_isSet rfl rfl ⟨(Nat.le_of_ble_eq_true rfl), (Nat.le_of_ble_eq_true rfl)⟩ rfl (List.mem_of_getElem? (i := 0) rfl) rfl (Nat.le_of_ble_eq_true rfl) dX6_peace_3 ⟨Nat.zero_le _, Nat.zero_le _⟩) (List.Sublist.refl _) (fun _ => rfl) (fun r1 _ h => ?_)
  refine r_if_ne (tgt := 11) C dX6_peace_6 (by decide) (fun c2 => ?_) (fun c2 => ?_)
  · have h := h.1 c2
    refine r_aload_n C dX6_peace_11 rfl ?_
    refine r_iconst (v := 0) C dX6_peace_12 (by decide) ?_
    obtain ⟨S3, hS3⟩ : ∃ z : RS, z = sI S 42 0 := ⟨_, rfl⟩
    have h := h S3 hS3
    refine r_put (cn := RX6) (T := TX6) (N := 43) (ci := 6) (ws' := mW g a S3) C uwX6_peace_6 tyX6 tyX6_ok nmX6 0 rfl rfl 42 (by decide) kwX6_peace_0 rfl rfl rfl (Nat.le_of_ble_eq_true rfl) dX6_peace_13 (by rw [hS3]; rfl) ?_
    refine r_iconst (v := 0) C dX6_peace_16 (by decide) ?_
    refine r_istore_n (lv' := [(0, .ref (a 50)), (1, .int v1), (2, .int 0)]) C dX6_peace_17 [some 0, some 1, none] (by decide) rfl rfl ?_
    refine wfX6_peace_18 C hZ (fun S11 h => ?_) N _ _ h
    refine r_aload_n C dX6_peace_61 rfl ?_
    refine r_iconst (v := 0) C dX6_peace_62 (by decide) ?_
    obtain ⟨S12, hS12⟩ : ∃ z : RS, z = sI S11 29 0 := ⟨_, rfl⟩
    have h := h S12 hS12
    refine r_put (cn := RX6) (T := TX6) (N := 43) (ci := 6) (ws' := mW g a S12) C uwX6_peace_6 tyX6 tyX6_ok nmX6 0 rfl rfl 29 (by decide) kwX6_peace_4 rfl rfl rfl (Nat.le_of_ble_eq_true rfl) dX6_peace_63 (by rw [hS12]; rfl) ?_
    refine r_aload_n C dX6_peace_66 rfl ?_
    refine r_iconst (v := (-1)) C dX6_peace_67 (by decide) ?_
    obtain ⟨S13, hS13⟩ : ∃ z : RS, z = sI S12 27 (-1) := ⟨_, rfl⟩
    have h := h S13 hS13
    refine r_put (cn := RX6) (T := TX6) (N := 43) (ci := 6) (ws' := mW g a S13) C uwX6_peace_6 tyX6 tyX6_ok nmX6 0 rfl rfl 27 (by decide) kwX6_peace_5 rfl rfl rfl (Nat.le_of_ble_eq_true rfl) dX6_peace_68 (by rw [hS13]; rfl) ?_
    refine r_aload_n C dX6_peace_71 rfl ?_
    refine r_iconst (v := 0) C dX6_peace_72 (by decide) ?_
    refine r_iconst (v := 0) C dX6_peace_73 (by decide) ?_
    refine callW_V C (run_V (As := [.int 0, .int 0]) (rest := []) (ci := 6) C hZ.2.2 (tX6_go _ g a S13 N 0 0 _ h) gX6_peace_X6_go rfl dsX6_go rfl rfl ⟨(Nat.le_of_ble_eq_true rfl), (Nat.le_of_ble_eq_true rfl)⟩ rfl (List.mem_of_getElem? (i := 0) rfl) rfl (Nat.le_of_ble_eq_true rfl) dX6_peace_74 ⟨Nat.zero_le _, Nat.zero_le _⟩) (fun S14 h => ?_)
    show St x 0 0 (mW g a S14) _ _ 77
    refine r_aload_n C dX6_peace_77 rfl ?_
    refine r_iload_n C dX6_peace_78 rfl ?_
    obtain ⟨S15, hS15⟩ : ∃ z : RS, z = sI S14 26 v1 := ⟨_, rfl⟩
    have h := h S15 hS15
    refine r_put (cn := RX6) (T := TX6) (N := 43) (ci := 6) (ws' := mW g a S15) C uwX6_peace_6 tyX6 tyX6_ok nmX6 0 rfl rfl 26 (by decide) kwX6_peace_6 rfl rfl rfl (Nat.le_of_ble_eq_true rfl) dX6_peace_79 (by rw [hS15]; rfl) ?_
    refine r_aload_n C dX6_peace_82 rfl ?_
    refine r_get (cn := RX6) (T := TX6) (N := 43) (ci := 6) C uwX6_peace_6 0 rfl rfl 27 (by decide) kwX6_peace_5 (v := .int (S15.1 27)) rfl dX6_peace_83 ?_
    exact r_iret C hZ (u := S15) h rfl dX6_peace_86
  · have h := h.2 c2
    refine r_iconst (v := (-1)) C dX6_peace_9 (by decide) ?_
    exact r_iret C hZ (u := S) h rfl dX6_peace_10
def rmX6_made : Room := { frames := 1, cells := 0, slots := 0, locals := 21 }
theorem kwX6_made_0 : Cond.fieldLink RX6 232 "WantsBenchModel" "madeSet" "I" ∈ wsX6_made := by decide +kernel
theorem uwX6_made_6 : ∀ w ∈ wsX60, w ∈ wsX6_made := by decide +kernel
theorem kwX6_made_2 : Cond.fieldLink RX6 63 "WantsBenchModel" "made" "[I" ∈ wsX6_made := by decide +kernel
def fX6_made_25b (N : Nat) (S : RS) (v1 : Int32) (v2 : Int32) (v3 : Int32) (R : Int32 → Int32 → Prop) (K : Int32 → Prop) (Q : Int32 → Prop) : Prop :=
  ((v1 ≤ v3 → K v2) ∧ (¬ v1 ≤ v3 → (∀ x5 : Int32, x5 = v2 + (((S.1 26) >>> (v3 &&& 31)) &&& (1 : Int32)) → (∀ x6 : Int32, x6 = v3 + 1 → R x5 x6))))
set_option maxRecDepth 100000 in
set_option maxHeartbeats 4000000 in
theorem wfX6_made_25b {x : Nx} {g : Gx} {W0 : va_W} {a : Nat → Nat} {S : RS} {N : Nat} {v1 : Int32} {v2 : Int32} {v3 : Int32} {R : Int32 → Int32 → Prop} {K : Int32 → Prop} {Q : Int32 → Prop} (C : Cx x g cX6_made RX6 wsX6_made rmX6_made yX6_made (some .int) 4) (hZ : Zq x g W0 (fun _ : Unit => mW g a S) (qI (fun (r : Int32) (_ : Unit) => Q r)) 0 0) (hR : ∀ (w2 : Int32) (w3 : Int32), R w2 w3 → St x 0 0 (mW g a S) [(0, .ref (a 50)), (1, .int v1), (2, .int w2), (3, .int w3)] [] 25) (hK : ∀ (w2 : Int32), K w2 → St x 0 0 (mW g a S) [(0, .ref (a 50)), (2, .int w2)] [] 47) (h : fX6_made_25b N S v1 v2 v3 R K Q) : St x 0 0 (mW g a S) [(0, .ref (a 50)), (1, .int v1), (2, .int v2), (3, .int v3)] [] 25 := by
  unfold fX6_made_25b at h
  refine r_iload_n C dX6_made_25 rfl ?_
  refine r_iload_n C dX6_made_26 rfl ?_
  refine r_icmp_ge (tgt := 47) C dX6_made_27 (by decide) (fun c4 => ?_) (fun c4 => ?_)
  · have h := h.1 c4
    refine r_sub [0, 2] (lv' := [(0, .ref (a 50)), (2, .int v2)]) rfl ?_
    exact hK v2 h
  · have h := h.2 c4
    refine r_iload_n C dX6_made_30 rfl ?_
    refine r_aload_n C dX6_made_31 rfl ?_
    refine r_get (cn := RX6) (T := TX6) (N := 43) (ci := 6) C uwX6_made_6 0 rfl rfl 26 (by decide) kwX6_made_0 (v := .int (S.1 26)) rfl dX6_made_32 ?_
    refine r_iload_n C dX6_made_35 rfl ?_
    refine r_ishr C dX6_made_36 ?_
    refine r_iconst (v := 1) C dX6_made_37 (by decide) ?_
    refine r_iand C dX6_made_38 ?_
    refine r_iadd C dX6_made_39 ?_
    refine r_topi (fun x5 ex5 => ?_)
    have h := h x5 ex5
    refine r_istore_n (lv' := [(0, .ref (a 50)), (1, .int v1), (2, .int x5), (3, .int v3)]) C dX6_made_40 [some 0, some 1, none, some 3] (by decide) rfl rfl ?_
    obtain ⟨x6, ex6⟩ : ∃ z : Int32, z = v3 + 1 := ⟨_, rfl⟩
    have h := h x6 ex6
    refine r_iinc (v := x6) (lv' := [(0, .ref (a 50)), (1, .int v1), (2, .int x5), (3, .int x6)]) C dX6_made_41 rfl (by rw [ex6]; rfl) [some 0, some 1, some 2, none] (by decide) rfl rfl ?_
    refine r_goto (tgt := 25) C dX6_made_44 (by decide) ?_
    exact hR x5 x6 h
def fX6_made_25 (N : Nat) (S : RS) (v1 : Int32) (K : Int32 → Prop) (Q : Int32 → Prop) : Nat → Int32 → Int32 → Prop
  | 0, _, _ => False
  | n + 1, v2, v3 => fX6_made_25b N S v1 v2 v3 (fun v2 v3 => fX6_made_25 N S v1 K Q n v2 v3) K Q
set_option maxRecDepth 100000 in
set_option maxHeartbeats 4000000 in
theorem wfX6_made_25 {x : Nx} {g : Gx} {W0 : va_W} {a : Nat → Nat} {S : RS} {N : Nat} {v1 : Int32} {K : Int32 → Prop} {Q : Int32 → Prop} (C : Cx x g cX6_made RX6 wsX6_made rmX6_made yX6_made (some .int) 4) (hZ : Zq x g W0 (fun _ : Unit => mW g a S) (qI (fun (r : Int32) (_ : Unit) => Q r)) 0 0) (hK : ∀ (w2 : Int32), K w2 → St x 0 0 (mW g a S) [(0, .ref (a 50)), (2, .int w2)] [] 47) : ∀ (n : Nat) (v2 : Int32) (v3 : Int32), fX6_made_25 N S v1 K Q n v2 v3 → St x 0 0 (mW g a S) [(0, .ref (a 50)), (1, .int v1), (2, .int v2), (3, .int v3)] [] 25 := by
  intro n
  induction n with
  | zero => intro v2 v3 h; exact False.elim h
  | succ n ih => intro v2 v3 h; exact wfX6_made_25b C hZ ih hK h
def fX6_made (N : Nat) (S : RS) (v1 : Int32) (Q : Int32 → Prop) : Prop :=
  (fX6_isWant N S v1 (fun r1 => ((r1 = 0 → Q (-1)) ∧ (¬ r1 = 0 → ((¬ (((S.1 26) >>> (v1 &&& 31)) &&& (1 : Int32)) = 0 → (fX6_made_25 N S v1 (fun x7 => (vp_in x7 5 ∧ Q (S.2.1 25 x7.toNatClampNeg))) Q N 0 0)) ∧ ((((S.1 26) >>> (v1 &&& 31)) &&& (1 : Int32)) = 0 → Q (-1)))))))
set_option maxRecDepth 100000 in
set_option maxHeartbeats 4000000 in
theorem tX6_made (l : Launch) (g : Gx) (a : Nat → Nat) (S : RS) (N : Nat) (v1 : Int32) (Q : Int32 → Prop) (h : fX6_made N S v1 Q) : MetG l g yX6_made wsX6_made rmX6_made [.ref (a 50), .int v1] (mW g a S) (fun _ : Unit => mW g a S) (qI (fun (r : Int32) (_ : Unit) => Q r)) 0 0 := by
  refine met_of (cc := cX6_made) (own := RX6) (nL := 4) (ret := (some .int)) (lv := [(0, .ref (a 50)), (1, .int v1)]) (by decide) rfl rfl (Nat.le_of_ble_eq_true rfl) rfl ?_
  intro x C hl hZ
  subst hl
  unfold fX6_made at h
  refine r_aload_n C dX6_made_0 rfl ?_
  refine r_iload_n C dX6_made_1 rfl ?_
  refine callR_I C (run_V (As := [.int v1]) (rest := []) (ci := 6) C hZ.2.2 (tX6_isWant _ g a S N v1 _ h) gX6_made_X6_isWant rfl dsX6_isWant rfl rfl ⟨(Nat.le_of_ble_eq_true rfl), (Nat.le_of_ble_eq_true rfl)⟩ rfl (List.mem_of_getElem? (i := 0) rfl) rfl (Nat.le_of_ble_eq_true rfl) dX6_made_2 ⟨Nat.zero_le _, Nat.zero_le _⟩) (List.Sublist.refl _) (fun _ => rfl) (fun r1 _ h => ?_)
  refine r_if_eq (tgt := 19) C dX6_made_5 (by decide) (fun c2 => ?_) (fun c2 => ?_)
  · have h := h.1 c2
    refine r_iconst (v := (-1)) C dX6_made_19 (by decide) ?_
    exact r_iret C hZ (u := ()) h rfl dX6_made_20
  · have h := h.2 c2
    refine r_aload_n C dX6_made_8 rfl ?_
    refine r_get (cn := RX6) (T := TX6) (N := 43) (ci := 6) C uwX6_made_6 0 rfl rfl 26 (by decide) kwX6_made_0 (v := .int (S.1 26)) rfl dX6_made_9 ?_
    refine r_iload_n C dX6_made_12 rfl ?_
    refine r_ishr C dX6_made_13 ?_
    refine r_iconst (v := 1) C dX6_made_14 (by decide) ?_
    refine r_iand C dX6_made_15 ?_
    refine r_if_ne (tgt := 21) C dX6_made_16 (by decide) (fun c3 => ?_) (fun c3 => ?_)
    · have h := h.1 c3
      refine r_iconst (v := 0) C dX6_made_21 (by decide) ?_
      refine r_istore_n (lv' := [(0, .ref (a 50)), (1, .int v1), (2, .int 0)]) C dX6_made_22 [some 0, some 1, none] (by decide) rfl rfl ?_
      refine r_iconst (v := 0) C dX6_made_23 (by decide) ?_
      refine r_istore_n (lv' := [(0, .ref (a 50)), (1, .int v1), (2, .int 0), (3, .int 0)]) C dX6_made_24 [some 0, some 1, some 2, none] (by decide) rfl rfl ?_
      refine wfX6_made_25 C hZ (fun x7 h => ?_) N _ _ h
      refine r_aload_n C dX6_made_47 rfl ?_
      refine r_get (cn := RX6) (T := TX6) (N := 43) (ci := 6) C uwX6_made_6 0 rfl rfl 25 (by decide) kwX6_made_2 (v := .ref (a 25)) rfl dX6_made_48 ?_
      refine r_iload_n C dX6_made_51 rfl ?_
      obtain ⟨hi8, h⟩ := h
      refine r_iald C 18 rfl hi8 dX6_made_52 ?_
      exact r_iret C hZ (u := ()) h rfl dX6_made_53
    · have h := h.2 c3
      refine r_iconst (v := (-1)) C dX6_made_19 (by decide) ?_
      exact r_iret C hZ (u := ()) h rfl dX6_made_20
def rmX6_told : Room := { frames := 1, cells := 0, slots := 0, locals := 22 }
theorem kwX6_told_0 : Cond.fieldLink RX6 235 "WantsBenchModel" "runMany" "I" ∈ wsX6_told := by decide +kernel
theorem uwX6_told_6 : ∀ w ∈ wsX60, w ∈ wsX6_told := by decide +kernel
theorem kwX6_told_2 : Cond.fieldLink RX6 69 "WantsBenchModel" "run" "[I" ∈ wsX6_told := by decide +kernel
def fX6_told (N : Nat) (S : RS) (v1 : Int32) (v2 : Int32) (Q : Int32 → RS → Prop) : Prop :=
  (fX6_within N v1 0 7 (fun r1 => ((r1 = 0 → Q (-1) S) ∧ (¬ r1 = 0 → (fX6_within N v2 0 7 (fun r3 => ((¬ r3 = 0 → ((¬ (S.1 31) = 200 → (vp_in (S.1 31) 200 ∧ (∀ S7 : RS, S7 = sA S 30 (upd (S.2.1 30) (S.1 31).toNatClampNeg (((8 : Int32) * v1) + v2)) → (∀ S8 : RS, S8 = sI S7 31 ((S7.1 31) + (1 : Int32)) → Q (S8.1 31) S8)))) ∧ ((S.1 31) = 200 → Q (-2) S))) ∧ (r3 = 0 → Q (-1) S))))))))
set_option maxRecDepth 100000 in
set_option maxHeartbeats 4000000 in
theorem tX6_told (l : Launch) (g : Gx) (a : Nat → Nat) (S : RS) (N : Nat) (v1 : Int32) (v2 : Int32) (Q : Int32 → RS → Prop) (h : fX6_told N S v1 v2 Q) : MetG l g yX6_told wsX6_told rmX6_told [.ref (a 50), .int v1, .int v2] (mW g a S) (fun u : RS => mW g a u) (qI (fun (r : Int32) (u : RS) => Q r u)) 0 0 := by
  refine met_of (cc := cX6_told) (own := RX6) (nL := 3) (ret := (some .int)) (lv := [(0, .ref (a 50)), (1, .int v1), (2, .int v2)]) (by decide) rfl rfl (Nat.le_of_ble_eq_true rfl) rfl ?_
  intro x C hl hZ
  subst hl
  unfold fX6_told at h
  refine r_iload_n C dX6_told_0 rfl ?_
  refine r_iconst (v := 0) C dX6_told_1 (by decide) ?_
  refine r_bipush (v := 7) C dX6_told_2 (by decide) ?_
  refine callR_I C (run_S (As := [.int v1, .int 0, .int 7]) (rest := []) C hZ.2.2 (tX6_within _ g N v1 0 7 _ h) gX6_told_X6_within rfl dsX6_within rfl rfl ⟨(Nat.le_of_ble_eq_true rfl), (Nat.le_of_ble_eq_true rfl)⟩ rfl (Nat.le_of_ble_eq_true rfl) dX6_told_4 ⟨Nat.zero_le _, Nat.zero_le _⟩) (List.nil_sublist _) (fun _ => rfl) (fun r1 _ h => ?_)
  refine r_if_eq (tgt := 20) C dX6_told_7 (by decide) (fun c2 => ?_) (fun c2 => ?_)
  · have h := h.1 c2
    refine r_iconst (v := (-1)) C dX6_told_20 (by decide) ?_
    exact r_iret C hZ (u := S) h rfl dX6_told_21
  · have h := h.2 c2
    refine r_iload_n C dX6_told_10 rfl ?_
    refine r_iconst (v := 0) C dX6_told_11 (by decide) ?_
    refine r_bipush (v := 7) C dX6_told_12 (by decide) ?_
    refine callR_I C (run_S (As := [.int v2, .int 0, .int 7]) (rest := []) C hZ.2.2 (tX6_within _ g N v2 0 7 _ h) gX6_told_X6_within rfl dsX6_within rfl rfl ⟨(Nat.le_of_ble_eq_true rfl), (Nat.le_of_ble_eq_true rfl)⟩ rfl (Nat.le_of_ble_eq_true rfl) dX6_told_14 ⟨Nat.zero_le _, Nat.zero_le _⟩) (List.nil_sublist _) (fun _ => rfl) (fun r3 _ h => ?_)
    refine r_if_ne (tgt := 22) C dX6_told_17 (by decide) (fun c4 => ?_) (fun c4 => ?_)
    · have h := h.1 c4
      refine r_aload_n C dX6_told_22 rfl ?_
      refine r_get (cn := RX6) (T := TX6) (N := 43) (ci := 6) C uwX6_told_6 0 rfl rfl 31 (by decide) kwX6_told_0 (v := .int (S.1 31)) rfl dX6_told_23 ?_
      refine r_sipush (v := 200) C dX6_told_26 (by decide) ?_
      refine r_icmp_ne (tgt := 35) C dX6_told_29 (by decide) (fun c5 => ?_) (fun c5 => ?_)
      · have h := h.1 c5
        refine r_aload_n C dX6_told_35 rfl ?_
        refine r_get (cn := RX6) (T := TX6) (N := 43) (ci := 6) C uwX6_told_6 0 rfl rfl 30 (by decide) kwX6_told_2 (v := .ref (a 30)) rfl dX6_told_36 ?_
        refine r_aload_n C dX6_told_39 rfl ?_
        refine r_get (cn := RX6) (T := TX6) (N := 43) (ci := 6) C uwX6_told_6 0 rfl rfl 31 (by decide) kwX6_told_0 (v := .int (S.1 31)) rfl dX6_told_40 ?_
        refine r_bipush (v := 8) C dX6_told_43 (by decide) ?_
        refine r_iload_n C dX6_told_45 rfl ?_
        refine r_imul C dX6_told_46 ?_
        refine r_iload_n C dX6_told_47 rfl ?_
        refine r_iadd C dX6_told_48 ?_
        obtain ⟨hi6, h⟩ := h
        obtain ⟨S7, hS7⟩ : ∃ z : RS, z = sA S 30 (upd (S.2.1 30) (S.1 31).toNatClampNeg (((8 : Int32) * v1) + v2)) := ⟨_, rfl⟩
        have h := h S7 hS7
        refine r_iast (ws' := mW g a S7) C 20 rfl hi6 dX6_told_49 (by rw [hS7]; rfl) ?_
        refine r_aload_n C dX6_told_50 rfl ?_
        refine r_dup C dX6_told_51 rfl ?_
        refine r_get (cn := RX6) (T := TX6) (N := 43) (ci := 6) C uwX6_told_6 0 rfl rfl 31 (by decide) kwX6_told_0 (v := .int (S7.1 31)) rfl dX6_told_52 ?_
        refine r_iconst (v := 1) C dX6_told_55 (by decide) ?_
        refine r_iadd C dX6_told_56 ?_
        obtain ⟨S8, hS8⟩ : ∃ z : RS, z = sI S7 31 ((S7.1 31) + (1 : Int32)) := ⟨_, rfl⟩
        have h := h S8 hS8
        refine r_put (cn := RX6) (T := TX6) (N := 43) (ci := 6) (ws' := mW g a S8) C uwX6_told_6 tyX6 tyX6_ok nmX6 0 rfl rfl 31 (by decide) kwX6_told_0 rfl rfl rfl (Nat.le_of_ble_eq_true rfl) dX6_told_57 (by rw [hS8]; rfl) ?_
        refine r_aload_n C dX6_told_60 rfl ?_
        refine r_get (cn := RX6) (T := TX6) (N := 43) (ci := 6) C uwX6_told_6 0 rfl rfl 31 (by decide) kwX6_told_0 (v := .int (S8.1 31)) rfl dX6_told_61 ?_
        exact r_iret C hZ (u := S8) h rfl dX6_told_64
      · have h := h.2 c5
        refine r_bipush (v := (-2)) C dX6_told_32 (by decide) ?_
        exact r_iret C hZ (u := S) h rfl dX6_told_34
    · have h := h.2 c4
      refine r_iconst (v := (-1)) C dX6_told_20 (by decide) ?_
      exact r_iret C hZ (u := S) h rfl dX6_told_21
def rmX6_clear : Room := { frames := 0, cells := 0, slots := 0, locals := 0 }
theorem kwX6_clear_0 : Cond.fieldLink RX6 235 "WantsBenchModel" "runMany" "I" ∈ wsX6_clear := by decide +kernel
theorem uwX6_clear_6 : ∀ w ∈ wsX60, w ∈ wsX6_clear := by decide +kernel
def fX6_clear (N : Nat) (S : RS) (Q : Int32 → RS → Prop) : Prop :=
  (∀ x1 : Int32, x1 = S.1 31 → (∀ S2 : RS, S2 = sI S 31 0 → Q x1 S2))
set_option maxRecDepth 100000 in
set_option maxHeartbeats 4000000 in
theorem tX6_clear (l : Launch) (g : Gx) (a : Nat → Nat) (S : RS) (N : Nat) (Q : Int32 → RS → Prop) (h : fX6_clear N S Q) : MetG l g yX6_clear wsX6_clear rmX6_clear [.ref (a 50)] (mW g a S) (fun u : RS => mW g a u) (qI (fun (r : Int32) (u : RS) => Q r u)) 0 0 := by
  refine met_of (cc := cX6_clear) (own := RX6) (nL := 2) (ret := (some .int)) (lv := [(0, .ref (a 50))]) (by decide) rfl rfl (Nat.le_of_ble_eq_true rfl) rfl ?_
  intro x C hl hZ
  subst hl
  unfold fX6_clear at h
  refine r_aload_n C dX6_clear_0 rfl ?_
  refine r_get (cn := RX6) (T := TX6) (N := 43) (ci := 6) C uwX6_clear_6 0 rfl rfl 31 (by decide) kwX6_clear_0 (v := .int (S.1 31)) rfl dX6_clear_1 ?_
  refine r_topi (fun x1 ex1 => ?_)
  have h := h x1 ex1
  refine r_istore_n (lv' := [(0, .ref (a 50)), (1, .int x1)]) C dX6_clear_4 [some 0, none] (by decide) rfl rfl ?_
  refine r_aload_n C dX6_clear_5 rfl ?_
  refine r_iconst (v := 0) C dX6_clear_6 (by decide) ?_
  obtain ⟨S2, hS2⟩ : ∃ z : RS, z = sI S 31 0 := ⟨_, rfl⟩
  have h := h S2 hS2
  refine r_put (cn := RX6) (T := TX6) (N := 43) (ci := 6) (ws' := mW g a S2) C uwX6_clear_6 tyX6 tyX6_ok nmX6 0 rfl rfl 31 (by decide) kwX6_clear_0 rfl rfl rfl (Nat.le_of_ble_eq_true rfl) dX6_clear_7 (by rw [hS2]; rfl) ?_
  refine r_iload_n C dX6_clear_10 rfl ?_
  exact r_iret C hZ (u := S2) h rfl dX6_clear_11
def rmX6_brokenIn : Room := { frames := 1, cells := 0, slots := 0, locals := 27 }
theorem kwX6_brokenIn_0 : Cond.fieldLink RX6 235 "WantsBenchModel" "runMany" "I" ∈ wsX6_brokenIn := by decide +kernel
theorem uwX6_brokenIn_6 : ∀ w ∈ wsX60, w ∈ wsX6_brokenIn := by decide +kernel
theorem kwX6_brokenIn_2 : Cond.fieldLink RX6 16 "WantsBenchModel" "number" "[I" ∈ wsX6_brokenIn := by decide +kernel
theorem kwX6_brokenIn_3 : Cond.fieldLink RX6 69 "WantsBenchModel" "run" "[I" ∈ wsX6_brokenIn := by decide +kernel
def fX6_brokenIn_4b (N : Nat) (S : RS) (v1 : Int32) (v2 : Int32) (v3 : Int32) (R : Int32 → Int32 → Prop) (K : Prop) (Q : Int32 → Prop) : Prop :=
  (((S.1 31) ≤ v3 → K) ∧ (¬ (S.1 31) ≤ v3 → (vp_in v1 20 ∧ (vp_in v3 200 ∧ (fX6_stateBehind N S v1 (S.2.1 4 v1.toNatClampNeg) v2 (S.2.1 30 v3.toNatClampNeg) (fun r4 => ((0 ≤ r4 → (∀ x6 : Int32, x6 = v3 + 1 → R r4 x6)) ∧ (¬ 0 ≤ r4 → Q v3))))))))
set_option maxRecDepth 100000 in
set_option maxHeartbeats 4000000 in
theorem wfX6_brokenIn_4b {x : Nx} {g : Gx} {W0 : va_W} {a : Nat → Nat} {S : RS} {N : Nat} {v1 : Int32} {v2 : Int32} {v3 : Int32} {R : Int32 → Int32 → Prop} {K : Prop} {Q : Int32 → Prop} (C : Cx x g cX6_brokenIn RX6 wsX6_brokenIn rmX6_brokenIn yX6_brokenIn (some .int) 4) (hZ : Zq x g W0 (fun _ : Unit => mW g a S) (qI (fun (r : Int32) (_ : Unit) => Q r)) 0 0) (hR : ∀ (w2 : Int32) (w3 : Int32), R w2 w3 → St x 0 0 (mW g a S) [(0, .ref (a 50)), (1, .int v1), (2, .int w2), (3, .int w3)] [] 4) (hK : K → St x 0 0 (mW g a S) [] [] 43) (h : fX6_brokenIn_4b N S v1 v2 v3 R K Q) : St x 0 0 (mW g a S) [(0, .ref (a 50)), (1, .int v1), (2, .int v2), (3, .int v3)] [] 4 := by
  unfold fX6_brokenIn_4b at h
  refine r_iload_n C dX6_brokenIn_4 rfl ?_
  refine r_aload_n C dX6_brokenIn_5 rfl ?_
  refine r_get (cn := RX6) (T := TX6) (N := 43) (ci := 6) C uwX6_brokenIn_6 0 rfl rfl 31 (by decide) kwX6_brokenIn_0 (v := .int (S.1 31)) rfl dX6_brokenIn_6 ?_
  refine r_icmp_ge (tgt := 43) C dX6_brokenIn_9 (by decide) (fun c1 => ?_) (fun c1 => ?_)
  · have h := h.1 c1
    refine r_sub [] (lv' := []) rfl ?_
    exact hK h
  · have h := h.2 c1
    refine r_aload_n C dX6_brokenIn_12 rfl ?_
    refine r_iload_n C dX6_brokenIn_13 rfl ?_
    refine r_aload_n C dX6_brokenIn_14 rfl ?_
    refine r_get (cn := RX6) (T := TX6) (N := 43) (ci := 6) C uwX6_brokenIn_6 0 rfl rfl 4 (by decide) kwX6_brokenIn_2 (v := .ref (a 4)) rfl dX6_brokenIn_15 ?_
    refine r_iload_n C dX6_brokenIn_18 rfl ?_
    obtain ⟨hi2, h⟩ := h
    refine r_iald C 3 rfl hi2 dX6_brokenIn_19 ?_
    refine r_iload_n C dX6_brokenIn_20 rfl ?_
    refine r_aload_n C dX6_brokenIn_21 rfl ?_
    refine r_get (cn := RX6) (T := TX6) (N := 43) (ci := 6) C uwX6_brokenIn_6 0 rfl rfl 30 (by decide) kwX6_brokenIn_3 (v := .ref (a 30)) rfl dX6_brokenIn_22 ?_
    refine r_iload_n C dX6_brokenIn_25 rfl ?_
    obtain ⟨hi3, h⟩ := h
    refine r_iald C 20 rfl hi3 dX6_brokenIn_26 ?_
    refine callR_I C (run_V (As := [.int v1, .int (S.2.1 4 v1.toNatClampNeg), .int v2, .int (S.2.1 30 v3.toNatClampNeg)]) (rest := []) (ci := 6) C hZ.2.2 (tX6_stateBehind _ g a S N v1 (S.2.1 4 v1.toNatClampNeg) v2 (S.2.1 30 v3.toNatClampNeg) _ h) gX6_brokenIn_X6_stateBehind rfl dsX6_stateBehind rfl rfl ⟨(Nat.le_of_ble_eq_true rfl), (Nat.le_of_ble_eq_true rfl)⟩ rfl (List.mem_of_getElem? (i := 0) rfl) rfl (Nat.le_of_ble_eq_true rfl) dX6_brokenIn_27 ⟨Nat.zero_le _, Nat.zero_le _⟩) (List.Sublist.refl _) (fun _ => rfl) (fun r4 _ h => ?_)
    refine r_istore_n (lv' := [(0, .ref (a 50)), (1, .int v1), (2, .int r4), (3, .int v3)]) C dX6_brokenIn_30 [some 0, some 1, none, some 3] (by decide) rfl rfl ?_
    refine r_iload_n C dX6_brokenIn_31 rfl ?_
    refine r_if_ge (tgt := 37) C dX6_brokenIn_32 (by decide) (fun c5 => ?_) (fun c5 => ?_)
    · have h := h.1 c5
      obtain ⟨x6, ex6⟩ : ∃ z : Int32, z = v3 + 1 := ⟨_, rfl⟩
      have h := h x6 ex6
      refine r_iinc (v := x6) (lv' := [(0, .ref (a 50)), (1, .int v1), (2, .int r4), (3, .int x6)]) C dX6_brokenIn_37 rfl (by rw [ex6]; rfl) [some 0, some 1, some 2, none] (by decide) rfl rfl ?_
      refine r_goto (tgt := 4) C dX6_brokenIn_40 (by decide) ?_
      exact hR r4 x6 h
    · have h := h.2 c5
      refine r_iload_n C dX6_brokenIn_35 rfl ?_
      exact r_iret C hZ (u := ()) h rfl dX6_brokenIn_36
def fX6_brokenIn_4 (N : Nat) (S : RS) (v1 : Int32) (K : Prop) (Q : Int32 → Prop) : Nat → Int32 → Int32 → Prop
  | 0, _, _ => False
  | n + 1, v2, v3 => fX6_brokenIn_4b N S v1 v2 v3 (fun v2 v3 => fX6_brokenIn_4 N S v1 K Q n v2 v3) K Q
set_option maxRecDepth 100000 in
set_option maxHeartbeats 4000000 in
theorem wfX6_brokenIn_4 {x : Nx} {g : Gx} {W0 : va_W} {a : Nat → Nat} {S : RS} {N : Nat} {v1 : Int32} {K : Prop} {Q : Int32 → Prop} (C : Cx x g cX6_brokenIn RX6 wsX6_brokenIn rmX6_brokenIn yX6_brokenIn (some .int) 4) (hZ : Zq x g W0 (fun _ : Unit => mW g a S) (qI (fun (r : Int32) (_ : Unit) => Q r)) 0 0) (hK : K → St x 0 0 (mW g a S) [] [] 43) : ∀ (n : Nat) (v2 : Int32) (v3 : Int32), fX6_brokenIn_4 N S v1 K Q n v2 v3 → St x 0 0 (mW g a S) [(0, .ref (a 50)), (1, .int v1), (2, .int v2), (3, .int v3)] [] 4 := by
  intro n
  induction n with
  | zero => intro v2 v3 h; exact False.elim h
  | succ n ih => intro v2 v3 h; exact wfX6_brokenIn_4b C hZ ih hK h
def fX6_brokenIn (N : Nat) (S : RS) (v1 : Int32) (Q : Int32 → Prop) : Prop :=
  (fX6_brokenIn_4 N S v1 (Q (-4)) Q N 0 0)
set_option maxRecDepth 100000 in
set_option maxHeartbeats 4000000 in
theorem tX6_brokenIn (l : Launch) (g : Gx) (a : Nat → Nat) (S : RS) (N : Nat) (v1 : Int32) (Q : Int32 → Prop) (h : fX6_brokenIn N S v1 Q) : MetG l g yX6_brokenIn wsX6_brokenIn rmX6_brokenIn [.ref (a 50), .int v1] (mW g a S) (fun _ : Unit => mW g a S) (qI (fun (r : Int32) (_ : Unit) => Q r)) 0 0 := by
  refine met_of (cc := cX6_brokenIn) (own := RX6) (nL := 4) (ret := (some .int)) (lv := [(0, .ref (a 50)), (1, .int v1)]) (by decide) rfl rfl (Nat.le_of_ble_eq_true rfl) rfl ?_
  intro x C hl hZ
  subst hl
  unfold fX6_brokenIn at h
  refine r_iconst (v := 0) C dX6_brokenIn_0 (by decide) ?_
  refine r_istore_n (lv' := [(0, .ref (a 50)), (1, .int v1), (2, .int 0)]) C dX6_brokenIn_1 [some 0, some 1, none] (by decide) rfl rfl ?_
  refine r_iconst (v := 0) C dX6_brokenIn_2 (by decide) ?_
  refine r_istore_n (lv' := [(0, .ref (a 50)), (1, .int v1), (2, .int 0), (3, .int 0)]) C dX6_brokenIn_3 [some 0, some 1, some 2, none] (by decide) rfl rfl ?_
  refine wfX6_brokenIn_4 C hZ (fun h => ?_) N _ _ h
  refine r_bipush (v := (-4)) C dX6_brokenIn_43 (by decide) ?_
  exact r_iret C hZ (u := ()) h rfl dX6_brokenIn_45
def rmX6_held : Room := { frames := 2, cells := 0, slots := 0, locals := 50 }
def fX6_held (N : Nat) (S : RS) (v1 : Int32) (Q : Int32 → Prop) : Prop :=
  (fX6_isWant N S v1 (fun r1 => ((r1 = 0 → Q (-1)) ∧ (¬ r1 = 0 → (fX6_brokenIn N S v1 (fun r3 => Q r3))))))
set_option maxRecDepth 100000 in
set_option maxHeartbeats 4000000 in
theorem tX6_held (l : Launch) (g : Gx) (a : Nat → Nat) (S : RS) (N : Nat) (v1 : Int32) (Q : Int32 → Prop) (h : fX6_held N S v1 Q) : MetG l g yX6_held wsX6_held rmX6_held [.ref (a 50), .int v1] (mW g a S) (fun _ : Unit => mW g a S) (qI (fun (r : Int32) (_ : Unit) => Q r)) 0 0 := by
  refine met_of (cc := cX6_held) (own := RX6) (nL := 2) (ret := (some .int)) (lv := [(0, .ref (a 50)), (1, .int v1)]) (by decide) rfl rfl (Nat.le_of_ble_eq_true rfl) rfl ?_
  intro x C hl hZ
  subst hl
  unfold fX6_held at h
  refine r_aload_n C dX6_held_0 rfl ?_
  refine r_iload_n C dX6_held_1 rfl ?_
  refine callR_I C (run_V (As := [.int v1]) (rest := []) (ci := 6) C hZ.2.2 (tX6_isWant _ g a S N v1 _ h) gX6_held_X6_isWant rfl dsX6_isWant rfl rfl ⟨(Nat.le_of_ble_eq_true rfl), (Nat.le_of_ble_eq_true rfl)⟩ rfl (List.mem_of_getElem? (i := 0) rfl) rfl (Nat.le_of_ble_eq_true rfl) dX6_held_2 ⟨Nat.zero_le _, Nat.zero_le _⟩) (List.Sublist.refl _) (fun _ => rfl) (fun r1 _ h => ?_)
  refine r_if_eq (tgt := 16) C dX6_held_5 (by decide) (fun c2 => ?_) (fun c2 => ?_)
  · have h := h.1 c2
    refine r_iconst (v := (-1)) C dX6_held_16 (by decide) ?_
    exact r_iret C hZ (u := ()) h rfl dX6_held_17
  · have h := h.2 c2
    refine r_aload_n C dX6_held_8 rfl ?_
    refine r_iload_n C dX6_held_9 rfl ?_
    refine callR_I C (run_V (As := [.int v1]) (rest := []) (ci := 6) C hZ.2.2 (tX6_brokenIn _ g a S N v1 _ h) gX6_held_X6_brokenIn rfl dsX6_brokenIn rfl rfl ⟨(Nat.le_of_ble_eq_true rfl), (Nat.le_of_ble_eq_true rfl)⟩ rfl (List.mem_of_getElem? (i := 0) rfl) rfl (Nat.le_of_ble_eq_true rfl) dX6_held_10 ⟨Nat.zero_le _, Nat.zero_le _⟩) (List.Sublist.refl _) (fun _ => rfl) (fun r3 _ h => ?_)
    refine r_goto (tgt := 17) C dX6_held_13 (by decide) ?_
    exact r_iret C hZ (u := ()) h rfl dX6_held_17
def rmX6_isDay : Room := { frames := 1, cells := 0, slots := 0, locals := 22 }
def fX6_isDay (N : Nat) (v0 : Int32) (Q : Int32 → Prop) : Prop :=
  (fX6_within N v0 0 9999 (fun r1 => (narrow .boolean (.int r1) = .int r1 ∧ Q r1)))
set_option maxRecDepth 100000 in
set_option maxHeartbeats 4000000 in
theorem tX6_isDay (l : Launch) (g : Gx) (N : Nat) (v0 : Int32) (Q : Int32 → Prop) (h : fX6_isDay N v0 Q) : MetG l g yX6_isDay wsX6_isDay rmX6_isDay [.int v0] (([] : va_W)) (fun _ : Unit => ([] : va_W)) (qI (fun (r : Int32) (_ : Unit) => Q r)) 0 0 := by
  refine met_of (cc := cX6_isDay) (own := RX6) (nL := 1) (ret := (some .boolean)) (lv := [(0, .int v0)]) (by decide) rfl rfl (Nat.le_of_ble_eq_true rfl) rfl ?_
  intro x C hl hZ
  subst hl
  unfold fX6_isDay at h
  refine r_iload_n C dX6_isDay_0 rfl ?_
  refine r_iconst (v := 0) C dX6_isDay_1 (by decide) ?_
  refine r_sipush (v := 9999) C dX6_isDay_2 (by decide) ?_
  refine callR_I C (run_S (As := [.int v0, .int 0, .int 9999]) (rest := []) C hZ.2.2 (tX6_within _ g N v0 0 9999 _ h) gX6_isDay_X6_within rfl dsX6_within rfl rfl ⟨(Nat.le_of_ble_eq_true rfl), (Nat.le_of_ble_eq_true rfl)⟩ rfl (Nat.le_of_ble_eq_true rfl) dX6_isDay_5 ⟨Nat.zero_le _, Nat.zero_le _⟩) (List.nil_sublist _) (fun _ => rfl) (fun r1 _ h => ?_)
  exact r_zret C hZ (u := ()) h.1 h.2 rfl dX6_isDay_8
