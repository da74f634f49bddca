def rmX2_withUsed : Room := { frames := 1, cells := 0, slots := 0, locals := 21 }
theorem kwX2_withUsed_0 : Cond.fieldLink RX2 15 "WantsBench$Parts" "size" "I" ∈ wsX2_withUsed := by decide +kernel
theorem uwX2_withUsed_2 : ∀ w ∈ wsX20, w ∈ wsX2_withUsed := by decide +kernel
theorem kwX2_withUsed_2 : Cond.initialized RX5 ∈ wsX2_withUsed := by decide +kernel
theorem kwX2_withUsed_3 : Cond.static yX5_isIn ∈ wsX2_withUsed := by decide +kernel
theorem kwX2_withUsed_4 : Cond.fieldLink RX2 11 "WantsBench$Parts" "uses" "[I" ∈ wsX2_withUsed := by decide +kernel
def fX2_withUsed_9b (N : Nat) (P : RS) (v2 : Int32) (v3 : Int32) (R : Int32 → Int32 → Prop) (K : Int32 → Prop) (Q : Int32 → Prop) : Prop :=
  ((v3 < 0 → K v2) ∧ (¬ v3 < 0 → (fX5_isIn N v2 v3 (fun r3 => ((r3 = 0 → (∀ x5 : Int32, x5 = v3 + (-1) → R v2 x5)) ∧ (¬ r3 = 0 → (vp_in v3 20 ∧ (∀ x7 : Int32, x7 = v2 ||| (P.2.1 0 v3.toNatClampNeg) → (∀ x8 : Int32, x8 = v3 + (-1) → R x7 x8)))))))))
set_option maxRecDepth 100000 in
set_option maxHeartbeats 4000000 in
theorem wfX2_withUsed_9b {x : Nx} {g : Gx} {W0 : va_W} {a : Nat → Nat} {P : RS} {N : Nat} {v2 : Int32} {v3 : Int32} {R : Int32 → Int32 → Prop} {K : Int32 → Prop} {Q : Int32 → Prop} (C : Cx x g cX2_withUsed RX2 wsX2_withUsed rmX2_withUsed yX2_withUsed (some .int) 4) (hZ : Zq x g W0 (fun _ : Unit => pW g a P) (qI (fun (r : Int32) (_ : Unit) => Q r)) 0 0) (hR : ∀ (w2 : Int32) (w3 : Int32), R w2 w3 → St x 0 0 (pW g a P) [(0, .ref (a 50)), (2, .int w2), (3, .int w3)] [] 9) (hK : ∀ (w2 : Int32), K w2 → St x 0 0 (pW g a P) [(2, .int w2)] [] 36) (h : fX2_withUsed_9b N P v2 v3 R K Q) : St x 0 0 (pW g a P) [(0, .ref (a 50)), (2, .int v2), (3, .int v3)] [] 9 := by
  unfold fX2_withUsed_9b at h
  refine r_iload_n C dX2_withUsed_9 rfl ?_
  refine r_if_lt (tgt := 36) C dX2_withUsed_10 (by decide) (fun c2 => ?_) (fun c2 => ?_)
  · have h := h.1 c2
    refine r_sub [1] (lv' := [(2, .int v2)]) rfl ?_
    exact hK v2 h
  · have h := h.2 c2
    refine r_iload_n C dX2_withUsed_13 rfl ?_
    refine r_iload_n C dX2_withUsed_14 rfl ?_
    refine callR_I C (run_SN (As := [.int v2, .int v3]) (rest := []) C hZ.2.2 (tX5_isIn _ g N v2 v3 _ h) gX2_withUsed_X5_isIn_n23 (host := RX5) (by decide +kernel) kwX2_withUsed_2 kwX2_withUsed_3 rfl dsX5_isIn rfl rfl ⟨(Nat.le_of_ble_eq_true rfl), (Nat.le_of_ble_eq_true rfl)⟩ rfl (Nat.le_of_ble_eq_true rfl) dX2_withUsed_15 ⟨Nat.zero_le _, Nat.zero_le _⟩) (List.nil_sublist _) (fun _ => rfl) (fun r3 _ h => ?_)
    refine r_if_eq (tgt := 30) C dX2_withUsed_18 (by decide) (fun c4 => ?_) (fun c4 => ?_)
    · have h := h.1 c4
      obtain ⟨x5, ex5⟩ : ∃ z : Int32, z = v3 + (-1) := ⟨_, rfl⟩
      have h := h x5 ex5
      refine r_iinc (v := x5) (lv' := [(0, .ref (a 50)), (2, .int v2), (3, .int x5)]) C dX2_withUsed_30 rfl (by rw [ex5]; rfl) [some 0, some 1, none] (by decide) rfl rfl ?_
      refine r_goto (tgt := 9) C dX2_withUsed_33 (by decide) ?_
      exact hR v2 x5 h
    · have h := h.2 c4
      refine r_iload_n C dX2_withUsed_21 rfl ?_
      refine r_aload_n C dX2_withUsed_22 rfl ?_
      refine r_get (cn := RX2) (T := TX2) (N := 2) (ci := 2) C uwX2_withUsed_2 0 rfl rfl 0 (by decide) kwX2_withUsed_4 (v := .ref (a 0)) rfl dX2_withUsed_23 ?_
      refine r_iload_n C dX2_withUsed_26 rfl ?_
      obtain ⟨hi6, h⟩ := h
      refine r_iald C 1 rfl hi6 dX2_withUsed_27 ?_
      refine r_ior C dX2_withUsed_28 ?_
      refine r_topi (fun x7 ex7 => ?_)
      have h := h x7 ex7
      refine r_istore_n (lv' := [(0, .ref (a 50)), (2, .int x7), (3, .int v3)]) C dX2_withUsed_29 [some 0, none, some 2] (by decide) rfl rfl ?_
      obtain ⟨x8, ex8⟩ : ∃ z : Int32, z = v3 + (-1) := ⟨_, rfl⟩
      have h := h x8 ex8
      refine r_iinc (v := x8) (lv' := [(0, .ref (a 50)), (2, .int x7), (3, .int x8)]) C dX2_withUsed_30 rfl (by rw [ex8]; rfl) [some 0, some 1, none] (by decide) rfl rfl ?_
      refine r_goto (tgt := 9) C dX2_withUsed_33 (by decide) ?_
      exact hR x7 x8 h
def fX2_withUsed_9 (N : Nat) (P : RS) (K : Int32 → Prop) (Q : Int32 → Prop) : Nat → Int32 → Int32 → Prop
  | 0, _, _ => False
  | n + 1, v2, v3 => fX2_withUsed_9b N P v2 v3 (fun v2 v3 => fX2_withUsed_9 N P K Q n v2 v3) K Q
set_option maxRecDepth 100000 in
set_option maxHeartbeats 4000000 in
theorem wfX2_withUsed_9 {x : Nx} {g : Gx} {W0 : va_W} {a : Nat → Nat} {P : RS} {N : Nat} {K : Int32 → Prop} {Q : Int32 → Prop} (C : Cx x g cX2_withUsed RX2 wsX2_withUsed rmX2_withUsed yX2_withUsed (some .int) 4) (hZ : Zq x g W0 (fun _ : Unit => pW g a P) (qI (fun (r : Int32) (_ : Unit) => Q r)) 0 0) (hK : ∀ (w2 : Int32), K w2 → St x 0 0 (pW g a P) [(2, .int w2)] [] 36) : ∀ (n : Nat) (v2 : Int32) (v3 : Int32), fX2_withUsed_9 N P K Q n v2 v3 → St x 0 0 (pW g a P) [(0, .ref (a 50)), (2, .int v2), (3, .int v3)] [] 9 := by
  intro n
  induction n with
  | zero => intro v2 v3 h; exact False.elim h
  | succ n ih => intro v2 v3 h; exact wfX2_withUsed_9b C hZ ih hK h
def fX2_withUsed (N : Nat) (P : RS) (v1 : Int32) (Q : Int32 → Prop) : Prop :=
  (∀ x1 : Int32, x1 = (P.1 1) - (1 : Int32) → (fX2_withUsed_9 N P (fun x9 => Q x9) Q N v1 x1))
set_option maxRecDepth 100000 in
set_option maxHeartbeats 4000000 in
theorem tX2_withUsed (l : Launch) (g : Gx) (a : Nat → Nat) (P : RS) (N : Nat) (v1 : Int32) (Q : Int32 → Prop) (h : fX2_withUsed N P v1 Q) : MetG l g yX2_withUsed wsX2_withUsed rmX2_withUsed [.ref (a 50), .int v1] (pW g a P) (fun _ : Unit => pW g a P) (qI (fun (r : Int32) (_ : Unit) => Q r)) 0 0 := by
  refine met_of (cc := cX2_withUsed) (own := RX2) (nL := 4) (ret := (some .int)) (lv := [(0, .ref (a 50)), (1, .int v1)]) (by decide) rfl rfl (Nat.le_of_ble_eq_true rfl) rfl ?_
  intro x C hl hZ
  subst hl
  unfold fX2_withUsed at h
  refine r_iload_n C dX2_withUsed_0 rfl ?_
  refine r_istore_n (lv' := [(0, .ref (a 50)), (2, .int v1)]) C dX2_withUsed_1 [some 0, none] (by decide) rfl rfl ?_
  refine r_aload_n C dX2_withUsed_2 rfl ?_
  refine r_get (cn := RX2) (T := TX2) (N := 2) (ci := 2) C uwX2_withUsed_2 0 rfl rfl 1 (by decide) kwX2_withUsed_0 (v := .int (P.1 1)) rfl dX2_withUsed_3 ?_
  refine r_iconst (v := 1) C dX2_withUsed_6 (by decide) ?_
  refine r_isub C dX2_withUsed_7 ?_
  refine r_topi (fun x1 ex1 => ?_)
  have h := h x1 ex1
  refine r_istore_n (lv' := [(0, .ref (a 50)), (2, .int v1), (3, .int x1)]) C dX2_withUsed_8 [some 0, some 1, none] (by decide) rfl rfl ?_
  refine wfX2_withUsed_9 C hZ (fun x9 h => ?_) N _ _ h
  refine r_iload_n C dX2_withUsed_36 rfl ?_
  exact r_iret C hZ (u := ()) h rfl dX2_withUsed_37
def rmX0_begin : Room := { frames := 0, cells := 0, slots := 0, locals := 0 }
theorem kwX0_begin_0 : Cond.fieldLink RX0 35 "WantsBench$Game" "size" "I" ∈ wsX0_begin := by decide +kernel
theorem uwX0_begin_0 : ∀ w ∈ wsX00, w ∈ wsX0_begin := by decide +kernel
theorem kwX0_begin_2 : Cond.fieldLink RX0 23 "WantsBench$Game" "row" "[I" ∈ wsX0_begin := by decide +kernel
theorem kwX0_begin_3 : Cond.fieldLink RX0 39 "WantsBench$Game" "rowLength" "I" ∈ wsX0_begin := by decide +kernel
def fX0_begin (N : Nat) (G : RS) (Q : RS → Prop) : Prop :=
  (∀ G1 : RS, G1 = sI G 0 0 → (vp_in 0 1024 ∧ (∀ G3 : RS, G3 = sA G1 5 (upd (G1.2.1 5) (0 : Int32).toNatClampNeg 0) → (∀ G4 : RS, G4 = sI G3 6 1 → Q G4))))
set_option maxRecDepth 100000 in
set_option maxHeartbeats 4000000 in
theorem tX0_begin (l : Launch) (g : Gx) (a : Nat → Nat) (G : RS) (N : Nat) (Q : RS → Prop) (h : fX0_begin N G Q) : MetG l g yX0_begin wsX0_begin rmX0_begin [.ref (a 50)] (gW g a G) (fun u : RS => gW g a u) (qV (fun u : RS => Q u)) 0 0 := by
  refine met_of (cc := cX0_begin) (own := RX0) (nL := 1) (ret := none) (lv := [(0, .ref (a 50))]) (by decide) rfl rfl (Nat.le_of_ble_eq_true rfl) rfl ?_
  intro x C hl hZ
  subst hl
  unfold fX0_begin at h
  refine r_aload_n C dX0_begin_0 rfl ?_
  refine r_iconst (v := 0) C dX0_begin_1 (by decide) ?_
  obtain ⟨G1, hG1⟩ : ∃ z : RS, z = sI G 0 0 := ⟨_, rfl⟩
  have h := h G1 hG1
  refine r_put (cn := RX0) (T := TX0) (N := 10) (ci := 0) (ws' := gW g a G1) C uwX0_begin_0 tyX0 tyX0_ok nmX0 0 rfl rfl 0 (by decide) kwX0_begin_0 rfl rfl rfl (Nat.le_of_ble_eq_true rfl) dX0_begin_2 (by rw [hG1]; rfl) ?_
  refine r_aload_n C dX0_begin_5 rfl ?_
  refine r_get (cn := RX0) (T := TX0) (N := 10) (ci := 0) C uwX0_begin_0 0 rfl rfl 5 (by decide) kwX0_begin_2 (v := .ref (a 5)) rfl dX0_begin_6 ?_
  refine r_iconst (v := 0) C dX0_begin_9 (by decide) ?_
  refine r_iconst (v := 0) C dX0_begin_10 (by decide) ?_
  obtain ⟨hi2, h⟩ := h
  obtain ⟨G3, hG3⟩ : ∃ z : RS, z = sA G1 5 (upd (G1.2.1 5) (0 : Int32).toNatClampNeg 0) := ⟨_, rfl⟩
  have h := h G3 hG3
  refine r_iast (ws' := gW g a G3) C 5 rfl hi2 dX0_begin_11 (by rw [hG3]; rfl) ?_
  refine r_aload_n C dX0_begin_12 rfl ?_
  refine r_iconst (v := 1) C dX0_begin_13 (by decide) ?_
  obtain ⟨G4, hG4⟩ : ∃ z : RS, z = sI G3 6 1 := ⟨_, rfl⟩
  have h := h G4 hG4
  refine r_put (cn := RX0) (T := TX0) (N := 10) (ci := 0) (ws' := gW g a G4) C uwX0_begin_0 tyX0 tyX0_ok nmX0 0 rfl rfl 6 (by decide) kwX0_begin_3 rfl rfl rfl (Nat.le_of_ble_eq_true rfl) dX0_begin_14 (by rw [hG4]; rfl) ?_
  exact r_vret C hZ (u := G4) h rfl dX0_begin_17
def rmX0_widen : Room := { frames := 0, cells := 0, slots := 0, locals := 0 }
theorem kwX0_widen_0 : Cond.fieldLink RX0 39 "WantsBench$Game" "rowLength" "I" ∈ wsX0_widen := by decide +kernel
theorem uwX0_widen_0 : ∀ w ∈ wsX00, w ∈ wsX0_widen := by decide +kernel
theorem kwX0_widen_2 : Cond.fieldLink RX0 23 "WantsBench$Game" "row" "[I" ∈ wsX0_widen := by decide +kernel
theorem kwX0_widen_3 : Cond.fieldLink RX0 35 "WantsBench$Game" "size" "I" ∈ wsX0_widen := by decide +kernel
def fX0_widen_20b (N : Nat) (G : RS) (v1 : Int32) (v2 : Int32) (v3 : Int32) (v4 : Int32) (R : Int32 → RS → Prop) (K : RS → Prop) (Q : RS → Prop) : Prop :=
  ((v2 ≤ v4 → K G) ∧ (¬ v2 ≤ v4 → ((1024 ≤ (G.1 6) → K G) ∧ (¬ 1024 ≤ (G.1 6) → (vp_in v4 1024 ∧ (vp_in (G.1 6) 1024 ∧ (∀ G8 : RS, G8 = sA G 5 (upd (G.2.1 5) (G.1 6).toNatClampNeg ((G.2.1 5 v4.toNatClampNeg) ||| (v3 <<< (((2 : Int32) * (G.1 0)) &&& 31)))) → (∀ G9 : RS, G9 = sI G8 6 ((G8.1 6) + (1 : Int32)) → (∀ x10 : Int32, x10 = v4 + 1 → R x10 G9)))))))))
set_option maxRecDepth 100000 in
set_option maxHeartbeats 4000000 in
theorem wfX0_widen_20b {x : Nx} {g : Gx} {W0 : va_W} {a : Nat → Nat} {G : RS} {N : Nat} {v1 : Int32} {v2 : Int32} {v3 : Int32} {v4 : Int32} {R : Int32 → RS → Prop} {K : RS → Prop} {Q : RS → Prop} (C : Cx x g cX0_widen RX0 wsX0_widen rmX0_widen yX0_widen none 5) (hZ : Zq x g W0 (fun u : RS => gW g a u) (qV (fun u : RS => Q u)) 0 0) (hR : ∀ (w4 : Int32) (G_ : RS), R w4 G_ → St x 0 0 (gW g a G_) [(0, .ref (a 50)), (1, .int v1), (2, .int v2), (3, .int v3), (4, .int w4)] [] 20) (hK : ∀ (G_ : RS), K G_ → St x 0 0 (gW g a G_) [(0, .ref (a 50)), (1, .int v1), (2, .int v2), (3, .int v3)] [] 77) (h : fX0_widen_20b N G v1 v2 v3 v4 R K Q) : St x 0 0 (gW g a G) [(0, .ref (a 50)), (1, .int v1), (2, .int v2), (3, .int v3), (4, .int v4)] [] 20 := by
  unfold fX0_widen_20b at h
  refine r_iload C dX0_widen_20 rfl ?_
  refine r_iload_n C dX0_widen_22 rfl ?_
  refine r_icmp_ge (tgt := 77) C dX0_widen_23 (by decide) (fun c4 => ?_) (fun c4 => ?_)
  · have h := h.1 c4
    refine r_sub [0, 1, 2, 3] (lv' := [(0, .ref (a 50)), (1, .int v1), (2, .int v2), (3, .int v3)]) rfl ?_
    exact hK G h
  · have h := h.2 c4
    refine r_aload_n C dX0_widen_26 rfl ?_
    refine r_get (cn := RX0) (T := TX0) (N := 10) (ci := 0) C uwX0_widen_0 0 rfl rfl 6 (by decide) kwX0_widen_0 (v := .int (G.1 6)) rfl dX0_widen_27 ?_
    refine r_sipush (v := 1024) C dX0_widen_30 (by decide) ?_
    refine r_icmp_ge (tgt := 77) C dX0_widen_33 (by decide) (fun c5 => ?_) (fun c5 => ?_)
    · have h := h.1 c5
      refine r_sub [0, 1, 2, 3] (lv' := [(0, .ref (a 50)), (1, .int v1), (2, .int v2), (3, .int v3)]) rfl ?_
      exact hK G h
    · have h := h.2 c5
      refine r_aload_n C dX0_widen_36 rfl ?_
      refine r_get (cn := RX0) (T := TX0) (N := 10) (ci := 0) C uwX0_widen_0 0 rfl rfl 5 (by decide) kwX0_widen_2 (v := .ref (a 5)) rfl dX0_widen_37 ?_
      refine r_aload_n C dX0_widen_40 rfl ?_
      refine r_get (cn := RX0) (T := TX0) (N := 10) (ci := 0) C uwX0_widen_0 0 rfl rfl 6 (by decide) kwX0_widen_0 (v := .int (G.1 6)) rfl dX0_widen_41 ?_
      refine r_aload_n C dX0_widen_44 rfl ?_
      refine r_get (cn := RX0) (T := TX0) (N := 10) (ci := 0) C uwX0_widen_0 0 rfl rfl 5 (by decide) kwX0_widen_2 (v := .ref (a 5)) rfl dX0_widen_45 ?_
      refine r_iload C dX0_widen_48 rfl ?_
      obtain ⟨hi6, h⟩ := h
      refine r_iald C 5 rfl hi6 dX0_widen_50 ?_
      refine r_iload_n C dX0_widen_51 rfl ?_
      refine r_iconst (v := 2) C dX0_widen_52 (by decide) ?_
      refine r_aload_n C dX0_widen_53 rfl ?_
      refine r_get (cn := RX0) (T := TX0) (N := 10) (ci := 0) C uwX0_widen_0 0 rfl rfl 0 (by decide) kwX0_widen_3 (v := .int (G.1 0)) rfl dX0_widen_54 ?_
      refine r_imul C dX0_widen_57 ?_
      refine r_ishl C dX0_widen_58 ?_
      refine r_ior C dX0_widen_59 ?_
      obtain ⟨hi7, h⟩ := h
      obtain ⟨G8, hG8⟩ : ∃ z : RS, z = sA G 5 (upd (G.2.1 5) (G.1 6).toNatClampNeg ((G.2.1 5 v4.toNatClampNeg) ||| (v3 <<< (((2 : Int32) * (G.1 0)) &&& 31)))) := ⟨_, rfl⟩
      have h := h G8 hG8
      refine r_iast (ws' := gW g a G8) C 5 rfl hi7 dX0_widen_60 (by rw [hG8]; rfl) ?_
      refine r_aload_n C dX0_widen_61 rfl ?_
      refine r_dup C dX0_widen_62 rfl ?_
      refine r_get (cn := RX0) (T := TX0) (N := 10) (ci := 0) C uwX0_widen_0 0 rfl rfl 6 (by decide) kwX0_widen_0 (v := .int (G8.1 6)) rfl dX0_widen_63 ?_
      refine r_iconst (v := 1) C dX0_widen_66 (by decide) ?_
      refine r_iadd C dX0_widen_67 ?_
      obtain ⟨G9, hG9⟩ : ∃ z : RS, z = sI G8 6 ((G8.1 6) + (1 : Int32)) := ⟨_, rfl⟩
      have h := h G9 hG9
      refine r_put (cn := RX0) (T := TX0) (N := 10) (ci := 0) (ws' := gW g a G9) C uwX0_widen_0 tyX0 tyX0_ok nmX0 0 rfl rfl 6 (by decide) kwX0_widen_0 rfl rfl rfl (Nat.le_of_ble_eq_true rfl) dX0_widen_68 (by rw [hG9]; rfl) ?_
      obtain ⟨x10, ex10⟩ : ∃ z : Int32, z = v4 + 1 := ⟨_, rfl⟩
      have h := h x10 ex10
      refine r_iinc (v := x10) (lv' := [(0, .ref (a 50)), (1, .int v1), (2, .int v2), (3, .int v3), (4, .int x10)]) C dX0_widen_71 rfl (by rw [ex10]; rfl) [some 0, some 1, some 2, some 3, none] (by decide) rfl rfl ?_
      refine r_goto (tgt := 20) C dX0_widen_74 (by decide) ?_
      exact hR x10 G9 h
def fX0_widen_20 (N : Nat) (v1 : Int32) (v2 : Int32) (v3 : Int32) (K : RS → Prop) (Q : RS → Prop) : Nat → Int32 → RS → Prop
  | 0, _, _ => False
  | n + 1, v4, G => fX0_widen_20b N G v1 v2 v3 v4 (fun v4 G => fX0_widen_20 N v1 v2 v3 K Q n v4 G) K Q
set_option maxRecDepth 100000 in
set_option maxHeartbeats 4000000 in
theorem wfX0_widen_20 {x : Nx} {g : Gx} {W0 : va_W} {a : Nat → Nat}  {N : Nat} {v1 : Int32} {v2 : Int32} {v3 : Int32} {K : RS → Prop} {Q : RS → Prop} (C : Cx x g cX0_widen RX0 wsX0_widen rmX0_widen yX0_widen none 5) (hZ : Zq x g W0 (fun u : RS => gW g a u) (qV (fun u : RS => Q u)) 0 0) (hK : ∀ (G_ : RS), K G_ → St x 0 0 (gW g a G_) [(0, .ref (a 50)), (1, .int v1), (2, .int v2), (3, .int v3)] [] 77) : ∀ (n : Nat) (v4 : Int32) (G : RS), fX0_widen_20 N v1 v2 v3 K Q n v4 G → St x 0 0 (gW g a G) [(0, .ref (a 50)), (1, .int v1), (2, .int v2), (3, .int v3), (4, .int v4)] [] 20 := by
  intro n
  induction n with
  | zero => intro v4 G h; exact False.elim h
  | succ n ih => intro v4 G h; exact wfX0_widen_20b C hZ ih hK h
def fX0_widen_7b (N : Nat) (G : RS) (v1 : Int32) (v2 : Int32) (v3 : Int32) (R : Int32 → RS → Prop) (K : RS → Prop) (Q : RS → Prop) : Prop :=
  ((v1 < v3 → K G) ∧ (¬ v1 < v3 → ((4 ≤ v3 → K G) ∧ (¬ 4 ≤ v3 → (fX0_widen_20 N v1 v2 v3 (fun G11 => (∀ x12 : Int32, x12 = v3 + 1 → R x12 G11)) Q N 0 G)))))
set_option maxRecDepth 100000 in
set_option maxHeartbeats 4000000 in
theorem wfX0_widen_7b {x : Nx} {g : Gx} {W0 : va_W} {a : Nat → Nat} {G : RS} {N : Nat} {v1 : Int32} {v2 : Int32} {v3 : Int32} {R : Int32 → RS → Prop} {K : RS → Prop} {Q : RS → Prop} (C : Cx x g cX0_widen RX0 wsX0_widen rmX0_widen yX0_widen none 5) (hZ : Zq x g W0 (fun u : RS => gW g a u) (qV (fun u : RS => Q u)) 0 0) (hR : ∀ (w3 : Int32) (G_ : RS), R w3 G_ → St x 0 0 (gW g a G_) [(0, .ref (a 50)), (1, .int v1), (2, .int v2), (3, .int w3)] [] 7) (hK : ∀ (G_ : RS), K G_ → St x 0 0 (gW g a G_) [] [] 83) (h : fX0_widen_7b N G v1 v2 v3 R K Q) : St x 0 0 (gW g a G) [(0, .ref (a 50)), (1, .int v1), (2, .int v2), (3, .int v3)] [] 7 := by
  unfold fX0_widen_7b at h
  refine r_iload_n C dX0_widen_7 rfl ?_
  refine r_iload_n C dX0_widen_8 rfl ?_
  refine r_icmp_gt (tgt := 83) C dX0_widen_9 (by decide) (fun c2 => ?_) (fun c2 => ?_)
  · have h := h.1 c2
    refine r_sub [] (lv' := []) rfl ?_
    exact hK G h
  · have h := h.2 c2
    refine r_iload_n C dX0_widen_12 rfl ?_
    refine r_iconst (v := 4) C dX0_widen_13 (by decide) ?_
    refine r_icmp_ge (tgt := 83) C dX0_widen_14 (by decide) (fun c3 => ?_) (fun c3 => ?_)
    · have h := h.1 c3
      refine r_sub [] (lv' := []) rfl ?_
      exact hK G h
    · have h := h.2 c3
      refine r_iconst (v := 0) C dX0_widen_17 (by decide) ?_
      refine r_istore (lv' := [(0, .ref (a 50)), (1, .int v1), (2, .int v2), (3, .int v3), (4, .int 0)]) C dX0_widen_18 [some 0, some 1, some 2, some 3, none] (by decide) rfl rfl ?_
      refine wfX0_widen_20 C hZ (fun G11 h => ?_) N _ _ h
      obtain ⟨x12, ex12⟩ : ∃ z : Int32, z = v3 + 1 := ⟨_, rfl⟩
      have h := h x12 ex12
      refine r_iinc (v := x12) (lv' := [(0, .ref (a 50)), (1, .int v1), (2, .int v2), (3, .int x12)]) C dX0_widen_77 rfl (by rw [ex12]; rfl) [some 0, some 1, some 2, none] (by decide) rfl rfl ?_
      refine r_goto (tgt := 7) C dX0_widen_80 (by decide) ?_
      exact hR x12 G11 h
def fX0_widen_7 (N : Nat) (v1 : Int32) (v2 : Int32) (K : RS → Prop) (Q : RS → Prop) : Nat → Int32 → RS → Prop
  | 0, _, _ => False
  | n + 1, v3, G => fX0_widen_7b N G v1 v2 v3 (fun v3 G => fX0_widen_7 N v1 v2 K Q n v3 G) K Q
set_option maxRecDepth 100000 in
set_option maxHeartbeats 4000000 in
theorem wfX0_widen_7 {x : Nx} {g : Gx} {W0 : va_W} {a : Nat → Nat}  {N : Nat} {v1 : Int32} {v2 : Int32} {K : RS → Prop} {Q : RS → Prop} (C : Cx x g cX0_widen RX0 wsX0_widen rmX0_widen yX0_widen none 5) (hZ : Zq x g W0 (fun u : RS => gW g a u) (qV (fun u : RS => Q u)) 0 0) (hK : ∀ (G_ : RS), K G_ → St x 0 0 (gW g a G_) [] [] 83) : ∀ (n : Nat) (v3 : Int32) (G : RS), fX0_widen_7 N v1 v2 K Q n v3 G → St x 0 0 (gW g a G) [(0, .ref (a 50)), (1, .int v1), (2, .int v2), (3, .int v3)] [] 7 := by
  intro n
  induction n with
  | zero => intro v3 G h; exact False.elim h
  | succ n ih => intro v3 G h; exact wfX0_widen_7b C hZ ih hK h
def fX0_widen (N : Nat) (G : RS) (v1 : Int32) (Q : RS → Prop) : Prop :=
  (∀ x1 : Int32, x1 = G.1 6 → (fX0_widen_7 N v1 x1 (fun G13 => Q G13) Q N 1 G))
set_option maxRecDepth 100000 in
set_option maxHeartbeats 4000000 in
theorem tX0_widen (l : Launch) (g : Gx) (a : Nat → Nat) (G : RS) (N : Nat) (v1 : Int32) (Q : RS → Prop) (h : fX0_widen N G v1 Q) : MetG l g yX0_widen wsX0_widen rmX0_widen [.ref (a 50), .int v1] (gW g a G) (fun u : RS => gW g a u) (qV (fun u : RS => Q u)) 0 0 := by
  refine met_of (cc := cX0_widen) (own := RX0) (nL := 5) (ret := none) (lv := [(0, .ref (a 50)), (1, .int v1)]) (by decide) rfl rfl (Nat.le_of_ble_eq_true rfl) rfl ?_
  intro x C hl hZ
  subst hl
  unfold fX0_widen at h
  refine r_aload_n C dX0_widen_0 rfl ?_
  refine r_get (cn := RX0) (T := TX0) (N := 10) (ci := 0) C uwX0_widen_0 0 rfl rfl 6 (by decide) kwX0_widen_0 (v := .int (G.1 6)) rfl dX0_widen_1 ?_
  refine r_topi (fun x1 ex1 => ?_)
  have h := h x1 ex1
  refine r_istore_n (lv' := [(0, .ref (a 50)), (1, .int v1), (2, .int x1)]) C dX0_widen_4 [some 0, some 1, none] (by decide) rfl rfl ?_
  refine r_iconst (v := 1) C dX0_widen_5 (by decide) ?_
  refine r_istore_n (lv' := [(0, .ref (a 50)), (1, .int v1), (2, .int x1), (3, .int 1)]) C dX0_widen_6 [some 0, some 1, some 2, none] (by decide) rfl rfl ?_
  refine wfX0_widen_7 C hZ (fun G13 h => ?_) N _ _ h
  exact r_vret C hZ (u := G13) h rfl dX0_widen_83
def rmX0_enter : Room := { frames := 2, cells := 0, slots := 0, locals := 52 }
theorem kwX0_enter_0 : Cond.fieldLink RX0 35 "WantsBench$Game" "size" "I" ∈ wsX0_enter := by decide +kernel
theorem uwX0_enter_0 : ∀ w ∈ wsX00, w ∈ wsX0_enter := by decide +kernel
theorem kwX0_enter_2 : Cond.fieldLink RX0 9 "WantsBench$Game" "breaking" "[J" ∈ wsX0_enter := by decide +kernel
theorem kwX0_enter_3 : Cond.fieldLink RX0 13 "WantsBench$Game" "turning" "[J" ∈ wsX0_enter := by decide +kernel
theorem kwX0_enter_4 : Cond.fieldLink RX0 16 "WantsBench$Game" "turned" "[I" ∈ wsX0_enter := by decide +kernel
theorem kwX0_enter_5 : Cond.fieldLink RX0 20 "WantsBench$Game" "runOn" "[I" ∈ wsX0_enter := by decide +kernel
theorem kwX0_enter_6 : Cond.fieldLink RX0 56 "WantsBench$Law" "sort" "I" ∈ wsX0_enter := by decide +kernel
theorem uwX0_enter_1 : ∀ w ∈ wsX10, w ∈ wsX0_enter := by decide +kernel
def fX0_enter_12b (N : Nat) (G : RS) (L : RS) (v2 : Int32) (v3 : Int32) (v4 : Int32) (R : Int32 → RS → Prop) (K : RS → Prop) (Q : RS → Prop) : Prop :=
  ((4 ≤ v4 → K G) ∧ (¬ 4 ≤ v4 → (∀ x3 : Int32, x3 = ((4 : Int32) * (G.1 0)) + v4 → (fX1_breaking N L v4 v2 (fun r4 => (vp_in x3 20 ∧ (∀ G6 : RS, G6 = sM G 1 (vp_updL (G.2.2.2 1) x3.toNatClampNeg r4) → (fX1_turning N L v4 (fun r7 => (vp_in x3 20 ∧ (∀ G9 : RS, G9 = sM G6 2 (vp_updL (G6.2.2.2 2) x3.toNatClampNeg r7) → (fX1_turned N L v4 v2 (fun r10 => (vp_in x3 20 ∧ (∀ G12 : RS, G12 = sA G9 3 (upd (G9.2.1 3) x3.toNatClampNeg (r10 <<< (((2 : Int32) * (G9.1 0)) &&& 31))) → (fX1_runOn N L v4 (fun r13 => (vp_in x3 20 ∧ (∀ G15 : RS, G15 = sA G12 4 (upd (G12.2.1 4) x3.toNatClampNeg (r13 <<< (((2 : Int32) * (G12.1 0)) &&& 31))) → (∀ x16 : Int32, x16 = v4 + 1 → R x16 G15))))))))))))))))))))
set_option maxRecDepth 100000 in
set_option maxHeartbeats 4000000 in
theorem wfX0_enter_12b {x : Nx} {g : Gx} {W0 : va_W} {a : Nat → Nat} {q : Nat} {G : RS} {L : RS} {N : Nat} {v2 : Int32} {v3 : Int32} {v4 : Int32} {R : Int32 → RS → Prop} {K : RS → Prop} {Q : RS → Prop} (C : Cx x g cX0_enter RX0 wsX0_enter rmX0_enter yX0_enter none 6) (hZ : Zq x g W0 (fun u : RS => gW g a u ++ [(q, lawE L)]) (qV (fun u : RS => Q u)) 0 0) (hR : ∀ (w4 : Int32) (G_ : RS), R w4 G_ → St x 0 0 (gW g a G_ ++ [(q, lawE L)]) [(0, .ref (a 50)), (1, .ref q), (2, .int v2), (3, .int v3), (4, .int w4)] [] 12) (hK : ∀ (G_ : RS), K G_ → St x 0 0 (gW g a G_ ++ [(q, lawE L)]) [(0, .ref (a 50)), (1, .ref q), (2, .int v2), (3, .int v3)] [] 103) (h : fX0_enter_12b N G L v2 v3 v4 R K Q) : St x 0 0 (gW g a G ++ [(q, lawE L)]) [(0, .ref (a 50)), (1, .ref q), (2, .int v2), (3, .int v3), (4, .int v4)] [] 12 := by
  unfold fX0_enter_12b at h
  refine r_iload C dX0_enter_12 rfl ?_
  refine r_iconst (v := 4) C dX0_enter_14 (by decide) ?_
  refine r_icmp_ge (tgt := 103) C dX0_enter_15 (by decide) (fun c2 => ?_) (fun c2 => ?_)
  · have h := h.1 c2
    refine r_sub [0, 1, 2, 3] (lv' := [(0, .ref (a 50)), (1, .ref q), (2, .int v2), (3, .int v3)]) rfl ?_
    exact hK G h
  · have h := h.2 c2
    refine r_iconst (v := 4) C dX0_enter_18 (by decide) ?_
    refine r_aload_n C dX0_enter_19 rfl ?_
    refine r_get (cn := RX0) (T := TX0) (N := 10) (ci := 0) C uwX0_enter_0 0 rfl rfl 0 (by decide) kwX0_enter_0 (v := .int (G.1 0)) rfl dX0_enter_20 ?_
    refine r_imul C dX0_enter_23 ?_
    refine r_iload C dX0_enter_24 rfl ?_
    refine r_iadd C dX0_enter_26 ?_
    refine r_topi (fun x3 ex3 => ?_)
    have h := h x3 ex3
    refine r_istore (lv' := [(0, .ref (a 50)), (1, .ref q), (2, .int v2), (3, .int v3), (4, .int v4), (5, .int x3)]) C dX0_enter_27 [some 0, some 1, some 2, some 3, some 4, none] (by decide) rfl rfl ?_
    refine r_aload_n C dX0_enter_29 rfl ?_
    refine r_get (cn := RX0) (T := TX0) (N := 10) (ci := 0) C uwX0_enter_0 0 rfl rfl 1 (by decide) kwX0_enter_2 (v := .ref (a 1)) rfl dX0_enter_30 ?_
    refine r_iload C dX0_enter_33 rfl ?_
    refine r_aload_n C dX0_enter_35 rfl ?_
    refine r_iload C dX0_enter_36 rfl ?_
    refine r_iload_n C dX0_enter_38 rfl ?_
    refine callR_L C (run_V (As := [.int v4, .int v2]) (rest := [.int x3, .ref (a 1)]) (ci := 1) C hZ.2.2 (tX1_breaking _ g q L N v4 v2 _ h) gX0_enter_X1_breaking rfl dsX1_breaking rfl rfl ⟨(Nat.le_of_ble_eq_true rfl), (Nat.le_of_ble_eq_true rfl)⟩ rfl (List.mem_of_getElem? (i := 9) rfl) rfl (Nat.le_of_ble_eq_true rfl) dX0_enter_39 ⟨Nat.zero_le _, Nat.zero_le _⟩) (List.sublist_append_right _ _) (fun _ => rfl) (fun r4 _ h => ?_)
    obtain ⟨hi5, h⟩ := h
    obtain ⟨G6, hG6⟩ : ∃ z : RS, z = sM G 1 (vp_updL (G.2.2.2 1) x3.toNatClampNeg r4) := ⟨_, rfl⟩
    have h := h G6 hG6
    refine r_last (ws' := gW g a G6 ++ [(q, lawE L)]) C 1 rfl hi5 dX0_enter_42 (by rw [hG6]; rfl) ?_
    refine r_aload_n C dX0_enter_43 rfl ?_
    refine r_get (cn := RX0) (T := TX0) (N := 10) (ci := 0) C uwX0_enter_0 0 rfl rfl 2 (by decide) kwX0_enter_3 (v := .ref (a 2)) rfl dX0_enter_44 ?_
    refine r_iload C dX0_enter_47 rfl ?_
    refine r_aload_n C dX0_enter_49 rfl ?_
    refine r_iload C dX0_enter_50 rfl ?_
    refine callR_L C (run_V (As := [.int v4]) (rest := [.int x3, .ref (a 2)]) (ci := 1) C hZ.2.2 (tX1_turning _ g q L N v4 _ h) gX0_enter_X1_turning rfl dsX1_turning rfl rfl ⟨(Nat.le_of_ble_eq_true rfl), (Nat.le_of_ble_eq_true rfl)⟩ rfl (List.mem_of_getElem? (i := 9) rfl) rfl (Nat.le_of_ble_eq_true rfl) dX0_enter_52 ⟨Nat.zero_le _, Nat.zero_le _⟩) (List.sublist_append_right _ _) (fun _ => rfl) (fun r7 _ h => ?_)
    obtain ⟨hi8, h⟩ := h
    obtain ⟨G9, hG9⟩ : ∃ z : RS, z = sM G6 2 (vp_updL (G6.2.2.2 2) x3.toNatClampNeg r7) := ⟨_, rfl⟩
    have h := h G9 hG9
    refine r_last (ws' := gW g a G9 ++ [(q, lawE L)]) C 2 rfl hi8 dX0_enter_55 (by rw [hG9]; rfl) ?_
    refine r_aload_n C dX0_enter_56 rfl ?_
    refine r_get (cn := RX0) (T := TX0) (N := 10) (ci := 0) C uwX0_enter_0 0 rfl rfl 3 (by decide) kwX0_enter_4 (v := .ref (a 3)) rfl dX0_enter_57 ?_
    refine r_iload C dX0_enter_60 rfl ?_
    refine r_aload_n C dX0_enter_62 rfl ?_
    refine r_iload C dX0_enter_63 rfl ?_
    refine r_iload_n C dX0_enter_65 rfl ?_
    refine callR_I C (run_V (As := [.int v4, .int v2]) (rest := [.int x3, .ref (a 3)]) (ci := 1) C hZ.2.2 (tX1_turned _ g q L N v4 v2 _ h) gX0_enter_X1_turned rfl dsX1_turned rfl rfl ⟨(Nat.le_of_ble_eq_true rfl), (Nat.le_of_ble_eq_true rfl)⟩ rfl (List.mem_of_getElem? (i := 9) rfl) rfl (Nat.le_of_ble_eq_true rfl) dX0_enter_66 ⟨Nat.zero_le _, Nat.zero_le _⟩) (List.sublist_append_right _ _) (fun _ => rfl) (fun r10 _ h => ?_)
    refine r_iconst (v := 2) C dX0_enter_69 (by decide) ?_
    refine r_aload_n C dX0_enter_70 rfl ?_
    refine r_get (cn := RX0) (T := TX0) (N := 10) (ci := 0) C uwX0_enter_0 0 rfl rfl 0 (by decide) kwX0_enter_0 (v := .int (G9.1 0)) rfl dX0_enter_71 ?_
    refine r_imul C dX0_enter_74 ?_
    refine r_ishl C dX0_enter_75 ?_
    obtain ⟨hi11, h⟩ := h
    obtain ⟨G12, hG12⟩ : ∃ z : RS, z = sA G9 3 (upd (G9.2.1 3) x3.toNatClampNeg (r10 <<< (((2 : Int32) * (G9.1 0)) &&& 31))) := ⟨_, rfl⟩
    have h := h G12 hG12
    refine r_iast (ws' := gW g a G12 ++ [(q, lawE L)]) C 3 rfl hi11 dX0_enter_76 (by rw [hG12]; rfl) ?_
    refine r_aload_n C dX0_enter_77 rfl ?_
    refine r_get (cn := RX0) (T := TX0) (N := 10) (ci := 0) C uwX0_enter_0 0 rfl rfl 4 (by decide) kwX0_enter_5 (v := .ref (a 4)) rfl dX0_enter_78 ?_
    refine r_iload C dX0_enter_81 rfl ?_
    refine r_aload_n C dX0_enter_83 rfl ?_
    refine r_iload C dX0_enter_84 rfl ?_
    refine callR_I C (run_V (As := [.int v4]) (rest := [.int x3, .ref (a 4)]) (ci := 1) C hZ.2.2 (tX1_runOn _ g q L N v4 _ h) gX0_enter_X1_runOn rfl dsX1_runOn rfl rfl ⟨(Nat.le_of_ble_eq_true rfl), (Nat.le_of_ble_eq_true rfl)⟩ rfl (List.mem_of_getElem? (i := 9) rfl) rfl (Nat.le_of_ble_eq_true rfl) dX0_enter_86 ⟨Nat.zero_le _, Nat.zero_le _⟩) (List.sublist_append_right _ _) (fun _ => rfl) (fun r13 _ h => ?_)
    refine r_iconst (v := 2) C dX0_enter_89 (by decide) ?_
    refine r_aload_n C dX0_enter_90 rfl ?_
    refine r_get (cn := RX0) (T := TX0) (N := 10) (ci := 0) C uwX0_enter_0 0 rfl rfl 0 (by decide) kwX0_enter_0 (v := .int (G12.1 0)) rfl dX0_enter_91 ?_
    refine r_imul C dX0_enter_94 ?_
    refine r_ishl C dX0_enter_95 ?_
    obtain ⟨hi14, h⟩ := h
    obtain ⟨G15, hG15⟩ : ∃ z : RS, z = sA G12 4 (upd (G12.2.1 4) x3.toNatClampNeg (r13 <<< (((2 : Int32) * (G12.1 0)) &&& 31))) := ⟨_, rfl⟩
    have h := h G15 hG15
    refine r_iast (ws' := gW g a G15 ++ [(q, lawE L)]) C 4 rfl hi14 dX0_enter_96 (by rw [hG15]; rfl) ?_
    obtain ⟨x16, ex16⟩ : ∃ z : Int32, z = v4 + 1 := ⟨_, rfl⟩
    have h := h x16 ex16
    refine r_iinc (v := x16) (lv' := [(0, .ref (a 50)), (1, .ref q), (2, .int v2), (3, .int v3), (4, .int x16)]) C dX0_enter_97 rfl (by rw [ex16]; rfl) [some 0, some 1, some 2, some 3, none] (by decide) rfl rfl ?_
    refine r_goto (tgt := 12) C dX0_enter_100 (by decide) ?_
    exact hR x16 G15 h
def fX0_enter_12 (N : Nat) (L : RS) (v2 : Int32) (v3 : Int32) (K : RS → Prop) (Q : RS → Prop) : Nat → Int32 → RS → Prop
  | 0, _, _ => False
  | n + 1, v4, G => fX0_enter_12b N G L v2 v3 v4 (fun v4 G => fX0_enter_12 N L v2 v3 K Q n v4 G) K Q
set_option maxRecDepth 100000 in
set_option maxHeartbeats 4000000 in
theorem wfX0_enter_12 {x : Nx} {g : Gx} {W0 : va_W} {a : Nat → Nat} {q : Nat} {L : RS} {N : Nat} {v2 : Int32} {v3 : Int32} {K : RS → Prop} {Q : RS → Prop} (C : Cx x g cX0_enter RX0 wsX0_enter rmX0_enter yX0_enter none 6) (hZ : Zq x g W0 (fun u : RS => gW g a u ++ [(q, lawE L)]) (qV (fun u : RS => Q u)) 0 0) (hK : ∀ (G_ : RS), K G_ → St x 0 0 (gW g a G_ ++ [(q, lawE L)]) [(0, .ref (a 50)), (1, .ref q), (2, .int v2), (3, .int v3)] [] 103) : ∀ (n : Nat) (v4 : Int32) (G : RS), fX0_enter_12 N L v2 v3 K Q n v4 G → St x 0 0 (gW g a G ++ [(q, lawE L)]) [(0, .ref (a 50)), (1, .ref q), (2, .int v2), (3, .int v3), (4, .int v4)] [] 12 := by
  intro n
  induction n with
  | zero => intro v4 G h; exact False.elim h
  | succ n ih => intro v4 G h; exact wfX0_enter_12b C hZ ih hK h
def fX0_enter_123 (N : Nat) (G : RS) (L : RS) (k0 : Int32) (Q : RS → Prop) : Prop :=
  (fX0_widen N G k0 (fun  G20 => (∀ G21 : RS, G21 = sI G20 0 ((G20.1 0) + (1 : Int32)) → Q G21)))
set_option maxRecDepth 100000 in
set_option maxHeartbeats 4000000 in
theorem wfX0_enter_123 {x : Nx} {g : Gx} {W0 : va_W} {a : Nat → Nat} {q : Nat} {G : RS} {L : RS} {N : Nat} {k0 : Int32} {Q : RS → Prop} (C : Cx x g cX0_enter RX0 wsX0_enter rmX0_enter yX0_enter none 6) (hZ : Zq x g W0 (fun u : RS => gW g a u ++ [(q, lawE L)]) (qV (fun u : RS => Q u)) 0 0) (h : fX0_enter_123 N G L k0 Q) : St x 0 0 (gW g a G ++ [(q, lawE L)]) [(0, .ref (a 50))] [.int k0] 123 := by
  unfold fX0_enter_123 at h
  refine r_istore (lv' := [(0, .ref (a 50)), (4, .int k0)]) C dX0_enter_123 [some 0, none] (by decide) rfl rfl ?_
  refine r_aload_n C dX0_enter_125 rfl ?_
  refine r_iload C dX0_enter_126 rfl ?_
  refine callP_V (ws' := fun z => gW g a z ++ [(q, lawE L)]) C (run_V (As := [.int k0]) (rest := []) (ci := 0) C hZ.2.2 (tX0_widen _ g a G N k0 _ h) gX0_enter_X0_widen rfl dsX0_widen rfl rfl ⟨(Nat.le_of_ble_eq_true rfl), (Nat.le_of_ble_eq_true rfl)⟩ rfl (List.mem_of_getElem? (i := 0) rfl) rfl (Nat.le_of_ble_eq_true rfl) dX0_enter_128 ⟨Nat.zero_le _, Nat.zero_le _⟩) pm0 (fun _ => pm0) (fun G20 h => ?_)
  show St x 0 0 (gW g a G20 ++ [(q, lawE L)]) _ _ 131
  refine r_aload_n C dX0_enter_131 rfl ?_
  refine r_dup C dX0_enter_132 rfl ?_
  refine r_get (cn := RX0) (T := TX0) (N := 10) (ci := 0) C uwX0_enter_0 0 rfl rfl 0 (by decide) kwX0_enter_0 (v := .int (G20.1 0)) rfl dX0_enter_133 ?_
  refine r_iconst (v := 1) C dX0_enter_136 (by decide) ?_
  refine r_iadd C dX0_enter_137 ?_
  obtain ⟨G21, hG21⟩ : ∃ z : RS, z = sI G20 0 ((G20.1 0) + (1 : Int32)) := ⟨_, rfl⟩
  have h := h G21 hG21
  refine r_put (cn := RX0) (T := TX0) (N := 10) (ci := 0) (ws' := gW g a G21 ++ [(q, lawE L)]) C uwX0_enter_0 tyX0 tyX0_ok nmX0 0 rfl rfl 0 (by decide) kwX0_enter_0 rfl rfl rfl (Nat.le_of_ble_eq_true rfl) dX0_enter_138 (by rw [hG21]; rfl) ?_
  exact r_vret C hZ (u := G21) h rfl dX0_enter_141
def fX0_enter (N : Nat) (G : RS) (L : RS) (v2 : Int32) (v3 : Int32) (Q : RS → Prop) : Prop :=
  (((G.1 0) < 5 → (fX0_enter_12 N L v2 v3 (fun G17 => ((¬ (L.1 0) = 0 → ((v3 = 0 → (fX0_enter_123 N G17 L v2 Q)) ∧ (¬ v3 = 0 → (fX0_enter_123 N G17 L 3 Q)))) ∧ ((L.1 0) = 0 → (fX0_enter_123 N G17 L 0 Q)))) Q N 0 G)) ∧ (¬ (G.1 0) < 5 → Q G))
set_option maxRecDepth 100000 in
set_option maxHeartbeats 4000000 in
theorem tX0_enter (l : Launch) (g : Gx) (a : Nat → Nat) (q : Nat) (G : RS) (L : RS) (N : Nat) (v2 : Int32) (v3 : Int32) (Q : RS → Prop) (h : fX0_enter N G L v2 v3 Q) : MetG l g yX0_enter wsX0_enter rmX0_enter [.ref (a 50), .ref q, .int v2, .int v3] (gW g a G ++ [(q, lawE L)]) (fun u : RS => gW g a u ++ [(q, lawE L)]) (qV (fun u : RS => Q u)) 0 0 := by
  refine met_of (cc := cX0_enter) (own := RX0) (nL := 6) (ret := none) (lv := [(0, .ref (a 50)), (1, .ref q), (2, .int v2), (3, .int v3)]) (by decide) rfl rfl (Nat.le_of_ble_eq_true rfl) rfl ?_
  intro x C hl hZ
  subst hl
  unfold fX0_enter at h
  refine r_aload_n C dX0_enter_0 rfl ?_
  refine r_get (cn := RX0) (T := TX0) (N := 10) (ci := 0) C uwX0_enter_0 0 rfl rfl 0 (by decide) kwX0_enter_0 (v := .int (G.1 0)) rfl dX0_enter_1 ?_
  refine r_iconst (v := 5) C dX0_enter_4 (by decide) ?_
  refine r_icmp_lt (tgt := 9) C dX0_enter_5 (by decide) (fun c1 => ?_) (fun c1 => ?_)
  · have h := h.1 c1
    refine r_iconst (v := 0) C dX0_enter_9 (by decide) ?_
    refine r_istore (lv' := [(0, .ref (a 50)), (1, .ref q), (2, .int v2), (3, .int v3), (4, .int 0)]) C dX0_enter_10 [some 0, some 1, some 2, some 3, none] (by decide) rfl rfl ?_
    refine wfX0_enter_12 C hZ (fun G17 h => ?_) N _ _ h
    refine r_aload_n C dX0_enter_103 rfl ?_
    refine r_get (cn := RX1) (T := TX1) (N := 11) (ci := 1) C uwX0_enter_1 9 rfl rfl 0 (by decide) kwX0_enter_6 (v := .int (L.1 0)) rfl dX0_enter_104 ?_
    refine r_if_ne (tgt := 114) C dX0_enter_107 (by decide) (fun c18 => ?_) (fun c18 => ?_)
    · have h := h.1 c18
      refine r_iload_n C dX0_enter_114 rfl ?_
      refine r_if_eq (tgt := 122) C dX0_enter_115 (by decide) (fun c19 => ?_) (fun c19 => ?_)
      · have h := h.1 c19
        refine r_iload_n C dX0_enter_122 rfl ?_
        refine r_sub [0] (lv' := [(0, .ref (a 50))]) rfl ?_
        exact wfX0_enter_123 C hZ h
      · have h := h.2 c19
        refine r_iconst (v := 3) C dX0_enter_118 (by decide) ?_
        refine r_goto (tgt := 123) C dX0_enter_119 (by decide) ?_
        refine r_sub [0] (lv' := [(0, .ref (a 50))]) rfl ?_
        exact wfX0_enter_123 C hZ h
    · have h := h.2 c18
      refine r_iconst (v := 0) C dX0_enter_110 (by decide) ?_
      refine r_goto (tgt := 123) C dX0_enter_111 (by decide) ?_
      refine r_sub [0] (lv' := [(0, .ref (a 50))]) rfl ?_
      exact wfX0_enter_123 C hZ h
  · have h := h.2 c1
    exact r_vret C hZ (u := G) h rfl dX0_enter_8
def rmX0_stateAt : Room := { frames := 0, cells := 0, slots := 0, locals := 0 }
def fX0_stateAt (N : Nat) (v0 : Int32) (v1 : Int32) (Q : Int32 → Prop) : Prop :=
  Q (((v0.toUInt32 >>> (((2 : Int32) * v1).toUInt32 &&& Int32.toUInt32 31)).toInt32) &&& (3 : Int32))
set_option maxRecDepth 100000 in
set_option maxHeartbeats 4000000 in
theorem tX0_stateAt (l : Launch) (g : Gx) (N : Nat) (v0 : Int32) (v1 : Int32) (Q : Int32 → Prop) (h : fX0_stateAt N v0 v1 Q) : MetG l g yX0_stateAt wsX0_stateAt rmX0_stateAt [.int v0, .int v1] (([] : va_W)) (fun _ : Unit => ([] : va_W)) (qI (fun (r : Int32) (_ : Unit) => Q r)) 0 0 := by
  refine met_of (cc := cX0_stateAt) (own := RX0) (nL := 2) (ret := (some .int)) (lv := [(0, .int v0), (1, .int v1)]) (by decide) rfl rfl (Nat.le_of_ble_eq_true rfl) rfl ?_
  intro x C hl hZ
  subst hl
  unfold fX0_stateAt at h
  refine r_iload_n C dX0_stateAt_0 rfl ?_
  refine r_iconst (v := 2) C dX0_stateAt_1 (by decide) ?_
  refine r_iload_n C dX0_stateAt_2 rfl ?_
  refine r_imul C dX0_stateAt_3 ?_
  refine r_iushr C dX0_stateAt_4 ?_
  refine r_iconst (v := 3) C dX0_stateAt_5 (by decide) ?_
  refine r_iand C dX0_stateAt_6 ?_
  exact r_iret C hZ (u := ()) h rfl dX0_stateAt_7
def rmX0_unbroken : Room := { frames := 0, cells := 0, slots := 0, locals := 0 }
theorem kwX0_unbroken_0 : Cond.constantLong RX0 99 (-1) ∈ wsX0_unbroken := by decide +kernel
theorem kwX0_unbroken_1 : Cond.fieldLink RX0 9 "WantsBench$Game" "breaking" "[J" ∈ wsX0_unbroken := by decide +kernel
theorem uwX0_unbroken_0 : ∀ w ∈ wsX00, w ∈ wsX0_unbroken := by decide +kernel
def fX0_unbroken_7b (N : Nat) (G : RS) (v1 : Int32) (v2 : Int32) (v3 : Int64) (v5 : Int32) (R : Int64 → Int32 → Prop) (K : Int64 → Prop) (Q : Int64 → Prop) : Prop :=
  ((v2 ≤ v5 → K v3) ∧ (¬ v2 ≤ v5 → ((5 ≤ v5 → K v3) ∧ (¬ 5 ≤ v5 → (vp_in (((4 : Int32) * v5) + (((v1.toUInt32 >>> (((2 : Int32) * v5).toUInt32 &&& Int32.toUInt32 31)).toInt32) &&& (3 : Int32))) 20 ∧ (∀ x4 : Int64, x4 = v3 &&& ((G.2.2.2 1 (((4 : Int32) * v5) + (((v1.toUInt32 >>> (((2 : Int32) * v5).toUInt32 &&& Int32.toUInt32 31)).toInt32) &&& (3 : Int32))).toNatClampNeg) ^^^ (-1 : Int64)) → (∀ x5 : Int32, x5 = v5 + 1 → R x4 x5)))))))
set_option maxRecDepth 100000 in
set_option maxHeartbeats 4000000 in
theorem wfX0_unbroken_7b {x : Nx} {g : Gx} {W0 : va_W} {a : Nat → Nat} {G : RS} {N : Nat} {v1 : Int32} {v2 : Int32} {v3 : Int64} {v5 : Int32} {R : Int64 → Int32 → Prop} {K : Int64 → Prop} {Q : Int64 → Prop} (C : Cx x g cX0_unbroken RX0 wsX0_unbroken rmX0_unbroken yX0_unbroken (some .long) 6) (hZ : Zq x g W0 (fun _ : Unit => gW g a G) (qL (fun (r : Int64) (_ : Unit) => Q r)) 0 0) (hR : ∀ (w3 : Int64) (w5 : Int32), R w3 w5 → St x 0 0 (gW g a G) [(0, .ref (a 50)), (1, .int v1), (2, .int v2), (3, .long w3), (5, .int w5)] [] 7) (hK : ∀ (w3 : Int64), K w3 → St x 0 0 (gW g a G) [(3, .long w3)] [] 50) (h : fX0_unbroken_7b N G v1 v2 v3 v5 R K Q) : St x 0 0 (gW g a G) [(0, .ref (a 50)), (1, .int v1), (2, .int v2), (3, .long v3), (5, .int v5)] [] 7 := by
  unfold fX0_unbroken_7b at h
  refine r_iload C dX0_unbroken_7 rfl ?_
  refine r_iload_n C dX0_unbroken_9 rfl ?_
  refine r_icmp_ge (tgt := 50) C dX0_unbroken_10 (by decide) (fun c1 => ?_) (fun c1 => ?_)
  · have h := h.1 c1
    refine r_sub [3] (lv' := [(3, .long v3)]) rfl ?_
    exact hK v3 h
  · have h := h.2 c1
    refine r_iload C dX0_unbroken_13 rfl ?_
    refine r_iconst (v := 5) C dX0_unbroken_15 (by decide) ?_
    refine r_icmp_ge (tgt := 50) C dX0_unbroken_16 (by decide) (fun c2 => ?_) (fun c2 => ?_)
    · have h := h.1 c2
      refine r_sub [3] (lv' := [(3, .long v3)]) rfl ?_
      exact hK v3 h
    · have h := h.2 c2
      refine r_lload_n C dX0_unbroken_19 rfl ?_
      refine r_aload_n C dX0_unbroken_20 rfl ?_
      refine r_get (cn := RX0) (T := TX0) (N := 10) (ci := 0) C uwX0_unbroken_0 0 rfl rfl 1 (by decide) kwX0_unbroken_1 (v := .ref (a 1)) rfl dX0_unbroken_21 ?_
      refine r_iconst (v := 4) C dX0_unbroken_24 (by decide) ?_
      refine r_iload C dX0_unbroken_25 rfl ?_
      refine r_imul C dX0_unbroken_27 ?_
      refine r_iload_n C dX0_unbroken_28 rfl ?_
      refine r_iconst (v := 2) C dX0_unbroken_29 (by decide) ?_
      refine r_iload C dX0_unbroken_30 rfl ?_
      refine r_imul C dX0_unbroken_32 ?_
      refine r_iushr C dX0_unbroken_33 ?_
      refine r_iconst (v := 3) C dX0_unbroken_34 (by decide) ?_
      refine r_iand C dX0_unbroken_35 ?_
      refine r_iadd C dX0_unbroken_36 ?_
      obtain ⟨hi3, h⟩ := h
      refine r_lald C 1 rfl hi3 dX0_unbroken_37 ?_
      refine r_ldc2 C kwX0_unbroken_0 dX0_unbroken_38 ?_
      refine r_lxor C dX0_unbroken_41 ?_
      refine r_land C dX0_unbroken_42 ?_
      refine r_topl (fun x4 ex4 => ?_)
      have h := h x4 ex4
      refine r_lstore_n (lv' := [(0, .ref (a 50)), (1, .int v1), (2, .int v2), (3, .long x4), (5, .int v5)]) C dX0_unbroken_43 [some 0, some 1, some 2, none, some 4] (by decide) rfl rfl ?_
      obtain ⟨x5, ex5⟩ : ∃ z : Int32, z = v5 + 1 := ⟨_, rfl⟩
      have h := h x5 ex5
      refine r_iinc (v := x5) (lv' := [(0, .ref (a 50)), (1, .int v1), (2, .int v2), (3, .long x4), (5, .int x5)]) C dX0_unbroken_44 rfl (by rw [ex5]; rfl) [some 0, some 1, some 2, some 3, none] (by decide) rfl rfl ?_
      refine r_goto (tgt := 7) C dX0_unbroken_47 (by decide) ?_
      exact hR x4 x5 h
def fX0_unbroken_7 (N : Nat) (G : RS) (v1 : Int32) (v2 : Int32) (K : Int64 → Prop) (Q : Int64 → Prop) : Nat → Int64 → Int32 → Prop
  | 0, _, _ => False
  | n + 1, v3, v5 => fX0_unbroken_7b N G v1 v2 v3 v5 (fun v3 v5 => fX0_unbroken_7 N G v1 v2 K Q n v3 v5) K Q
set_option maxRecDepth 100000 in
set_option maxHeartbeats 4000000 in
theorem wfX0_unbroken_7 {x : Nx} {g : Gx} {W0 : va_W} {a : Nat → Nat} {G : RS} {N : Nat} {v1 : Int32} {v2 : Int32} {K : Int64 → Prop} {Q : Int64 → Prop} (C : Cx x g cX0_unbroken RX0 wsX0_unbroken rmX0_unbroken yX0_unbroken (some .long) 6) (hZ : Zq x g W0 (fun _ : Unit => gW g a G) (qL (fun (r : Int64) (_ : Unit) => Q r)) 0 0) (hK : ∀ (w3 : Int64), K w3 → St x 0 0 (gW g a G) [(3, .long w3)] [] 50) : ∀ (n : Nat) (v3 : Int64) (v5 : Int32), fX0_unbroken_7 N G v1 v2 K Q n v3 v5 → St x 0 0 (gW g a G) [(0, .ref (a 50)), (1, .int v1), (2, .int v2), (3, .long v3), (5, .int v5)] [] 7 := by
  intro n
  induction n with
  | zero => intro v3 v5 h; exact False.elim h
  | succ n ih => intro v3 v5 h; exact wfX0_unbroken_7b C hZ ih hK h
def fX0_unbroken (N : Nat) (G : RS) (v1 : Int32) (v2 : Int32) (Q : Int64 → Prop) : Prop :=
  (fX0_unbroken_7 N G v1 v2 (fun x6 => Q x6) Q N (-1) 0)
set_option maxRecDepth 100000 in
set_option maxHeartbeats 4000000 in
theorem tX0_unbroken (l : Launch) (g : Gx) (a : Nat → Nat) (G : RS) (N : Nat) (v1 : Int32) (v2 : Int32) (Q : Int64 → Prop) (h : fX0_unbroken N G v1 v2 Q) : MetG l g yX0_unbroken wsX0_unbroken rmX0_unbroken [.ref (a 50), .int v1, .int v2] (gW g a G) (fun _ : Unit => gW g a G) (qL (fun (r : Int64) (_ : Unit) => Q r)) 0 0 := by
  refine met_of (cc := cX0_unbroken) (own := RX0) (nL := 6) (ret := (some .long)) (lv := [(0, .ref (a 50)), (1, .int v1), (2, .int v2)]) (by decide) rfl rfl (Nat.le_of_ble_eq_true rfl) rfl ?_
  intro x C hl hZ
  subst hl
  unfold fX0_unbroken at h
  refine r_ldc2 C kwX0_unbroken_0 dX0_unbroken_0 ?_
  refine r_lstore_n (lv' := [(0, .ref (a 50)), (1, .int v1), (2, .int v2), (3, .long (-1))]) C dX0_unbroken_3 [some 0, some 1, some 2, none] (by decide) rfl rfl ?_
  refine r_iconst (v := 0) C dX0_unbroken_4 (by decide) ?_
  refine r_istore (lv' := [(0, .ref (a 50)), (1, .int v1), (2, .int v2), (3, .long (-1)), (5, .int 0)]) C dX0_unbroken_5 [some 0, some 1, some 2, some 3, none] (by decide) rfl rfl ?_
  refine wfX0_unbroken_7 C hZ (fun x6 h => ?_) N _ _ h
  refine r_lload_n C dX0_unbroken_50 rfl ?_
  exact r_lret C hZ (u := ()) h rfl dX0_unbroken_51
def rmX0_split : Room := { frames := 0, cells := 0, slots := 0, locals := 0 }
theorem kwX0_split_0 : Cond.fieldLink RX0 29 "WantsBench$Game" "wayTolds" "[J" ∈ wsX0_split := by decide +kernel
theorem uwX0_split_0 : ∀ w ∈ wsX00, w ∈ wsX0_split := by decide +kernel
theorem kwX0_split_2 : Cond.fieldLink RX0 32 "WantsBench$Game" "wayEnds" "[I" ∈ wsX0_split := by decide +kernel
theorem kwX0_split_3 : Cond.fieldLink RX0 35 "WantsBench$Game" "size" "I" ∈ wsX0_split := by decide +kernel
theorem kwX0_split_4 : Cond.fieldLink RX0 13 "WantsBench$Game" "turning" "[J" ∈ wsX0_split := by decide +kernel
theorem kwX0_split_5 : Cond.constantLong RX0 99 (-1) ∈ wsX0_split := by decide +kernel
theorem kwX0_split_6 : Cond.fieldLink RX0 16 "WantsBench$Game" "turned" "[I" ∈ wsX0_split := by decide +kernel
theorem kwX0_split_7 : Cond.fieldLink RX0 20 "WantsBench$Game" "runOn" "[I" ∈ wsX0_split := by decide +kernel
def fX0_split_171 (N : Nat) (G : RS) (v1 : Int32) (v4 : Int32) (v5 : Int32) (v6 : Int32) (v7 : Int32) (v8 : Int32) (v11 : Int64) (k1 : Int32) (k2 : Int64) (R : Int32 → Int32 → RS → Prop) (K : Int32 → RS → Prop) (Q : Int32 → RS → Prop) : Prop :=
  (vp_in k1 32 ∧ (∀ G17 : RS, G17 = sM G 8 (vp_updL (G.2.2.2 8) k1.toNatClampNeg k2) → (vp_in v8 32 ∧ ((v11 = 0 → (vp_in v6 20 ∧ (vp_in v8 32 ∧ (∀ G22 : RS, G22 = sA G17 9 (upd (G17.2.1 9) v8.toNatClampNeg ((G17.2.1 9 v8.toNatClampNeg) ||| (G17.2.1 3 v6.toNatClampNeg))) → (∀ x23 : Int32, x23 = v8 + 1 → R v4 x23 G22))))) ∧ (¬ v11 = 0 → (vp_in v6 20 ∧ (vp_in v8 32 ∧ (∀ G26 : RS, G26 = sA G17 9 (upd (G17.2.1 9) v8.toNatClampNeg ((G17.2.1 9 v8.toNatClampNeg) ||| (G17.2.1 4 v6.toNatClampNeg))) → (∀ x27 : Int32, x27 = v8 + 1 → R v4 x27 G26)))))))))
set_option maxRecDepth 100000 in
set_option maxHeartbeats 4000000 in
theorem wfX0_split_171 {x : Nx} {g : Gx} {W0 : va_W} {a : Nat → Nat} {G : RS} {N : Nat} {v1 : Int32} {v4 : Int32} {v5 : Int32} {v6 : Int32} {v7 : Int32} {v8 : Int32} {v11 : Int64} {k1 : Int32} {k2 : Int64} {R : Int32 → Int32 → RS → Prop} {K : Int32 → RS → Prop} {Q : Int32 → RS → Prop} (C : Cx x g cX0_split RX0 wsX0_split rmX0_split yX0_split (some .int) 13) (hZ : Zq x g W0 (fun u : RS => gW g a u) (qI (fun (r : Int32) (u : RS) => Q r u)) 0 0) (hR : ∀ (w4 : Int32) (w8 : Int32) (G_ : RS), R w4 w8 G_ → St x 0 0 (gW g a G_) [(0, .ref (a 50)), (1, .int v1), (4, .int w4), (5, .int v5), (6, .int v6), (7, .int v7), (8, .int w8)] [] 51) (hK : ∀ (w4 : Int32) (G_ : RS), K w4 G_ → St x 0 0 (gW g a G_) [(0, .ref (a 50)), (1, .int v1), (4, .int w4), (5, .int v5)] [] 212) (h : fX0_split_171 N G v1 v4 v5 v6 v7 v8 v11 k1 k2 R K Q) : St x 0 0 (gW g a G) [(0, .ref (a 50)), (1, .int v1), (4, .int v4), (5, .int v5), (6, .int v6), (7, .int v7), (8, .int v8), (11, .long v11)] [.long k2, .int k1, .ref (a 8)] 171 := by
  unfold fX0_split_171 at h
  obtain ⟨hi16, h⟩ := h
  obtain ⟨G17, hG17⟩ : ∃ z : RS, z = sM G 8 (vp_updL (G.2.2.2 8) k1.toNatClampNeg k2) := ⟨_, rfl⟩
  have h := h G17 hG17
  refine r_last (ws' := gW g a G17) C 7 rfl hi16 dX0_split_171 (by rw [hG17]; rfl) ?_
  refine r_aload_n C dX0_split_172 rfl ?_
  refine r_get (cn := RX0) (T := TX0) (N := 10) (ci := 0) C uwX0_split_0 0 rfl rfl 9 (by decide) kwX0_split_2 (v := .ref (a 9)) rfl dX0_split_173 ?_
  refine r_iload C dX0_split_176 rfl ?_
  refine r_dup2 C dX0_split_178 rfl rfl ?_
  obtain ⟨hi18, h⟩ := h
  refine r_iald C 8 rfl hi18 dX0_split_179 ?_
  refine r_lload C dX0_split_180 rfl ?_
  refine r_lconst (v := 0) C dX0_split_182 (by decide) ?_
  refine r_lcmp_eq (tgt := 197) C dX0_split_183 dX0_split_184 (by decide) (fun c19 => ?_) (fun c19 => ?_)
  · have h := h.1 c19
    refine r_aload_n C dX0_split_197 rfl ?_
    refine r_get (cn := RX0) (T := TX0) (N := 10) (ci := 0) C uwX0_split_0 0 rfl rfl 3 (by decide) kwX0_split_6 (v := .ref (a 3)) rfl dX0_split_198 ?_
    refine r_iload C dX0_split_201 rfl ?_
    obtain ⟨hi20, h⟩ := h
    refine r_iald C 3 rfl hi20 dX0_split_203 ?_
    refine r_ior C dX0_split_204 ?_
    obtain ⟨hi21, h⟩ := h
    obtain ⟨G22, hG22⟩ : ∃ z : RS, z = sA G17 9 (upd (G17.2.1 9) v8.toNatClampNeg ((G17.2.1 9 v8.toNatClampNeg) ||| (G17.2.1 3 v6.toNatClampNeg))) := ⟨_, rfl⟩
    have h := h G22 hG22
    refine r_iast (ws' := gW g a G22) C 8 rfl hi21 dX0_split_205 (by rw [hG22]; rfl) ?_
    obtain ⟨x23, ex23⟩ : ∃ z : Int32, z = v8 + 1 := ⟨_, rfl⟩
    have h := h x23 ex23
    refine r_iinc (v := x23) (lv' := [(0, .ref (a 50)), (1, .int v1), (4, .int v4), (5, .int v5), (6, .int v6), (7, .int v7), (8, .int x23)]) C dX0_split_206 rfl (by rw [ex23]; rfl) [some 0, some 1, some 2, some 3, some 4, some 5, none] (by decide) rfl rfl ?_
    refine r_goto (tgt := 51) C dX0_split_209 (by decide) ?_
    exact hR v4 x23 G22 h
  · have h := h.2 c19
    refine r_aload_n C dX0_split_187 rfl ?_
    refine r_get (cn := RX0) (T := TX0) (N := 10) (ci := 0) C uwX0_split_0 0 rfl rfl 4 (by decide) kwX0_split_7 (v := .ref (a 4)) rfl dX0_split_188 ?_
    refine r_iload C dX0_split_191 rfl ?_
    obtain ⟨hi24, h⟩ := h
    refine r_iald C 4 rfl hi24 dX0_split_193 ?_
    refine r_goto (tgt := 204) C dX0_split_194 (by decide) ?_
    refine r_ior C dX0_split_204 ?_
    obtain ⟨hi25, h⟩ := h
    obtain ⟨G26, hG26⟩ : ∃ z : RS, z = sA G17 9 (upd (G17.2.1 9) v8.toNatClampNeg ((G17.2.1 9 v8.toNatClampNeg) ||| (G17.2.1 4 v6.toNatClampNeg))) := ⟨_, rfl⟩
    have h := h G26 hG26
    refine r_iast (ws' := gW g a G26) C 8 rfl hi25 dX0_split_205 (by rw [hG26]; rfl) ?_
    obtain ⟨x27, ex27⟩ : ∃ z : Int32, z = v8 + 1 := ⟨_, rfl⟩
    have h := h x27 ex27
    refine r_iinc (v := x27) (lv' := [(0, .ref (a 50)), (1, .int v1), (4, .int v4), (5, .int v5), (6, .int v6), (7, .int v7), (8, .int x27)]) C dX0_split_206 rfl (by rw [ex27]; rfl) [some 0, some 1, some 2, some 3, some 4, some 5, none] (by decide) rfl rfl ?_
    refine r_goto (tgt := 51) C dX0_split_209 (by decide) ?_
    exact hR v4 x27 G26 h
def fX0_split_151 (N : Nat) (G : RS) (v1 : Int32) (v4 : Int32) (v5 : Int32) (v6 : Int32) (v7 : Int32) (v8 : Int32) (v9 : Int64) (v11 : Int64) (R : Int32 → Int32 → RS → Prop) (K : Int32 → RS → Prop) (Q : Int32 → RS → Prop) : Prop :=
  ((v11 = 0 → (fX0_split_171 N G v1 v4 v5 v6 v7 v8 v11 v8 v9 R K Q)) ∧ (¬ v11 = 0 → (fX0_split_171 N G v1 v4 v5 v6 v7 v8 v11 v8 v11 R K Q)))
set_option maxRecDepth 100000 in
set_option maxHeartbeats 4000000 in
theorem wfX0_split_151 {x : Nx} {g : Gx} {W0 : va_W} {a : Nat → Nat} {G : RS} {N : Nat} {v1 : Int32} {v4 : Int32} {v5 : Int32} {v6 : Int32} {v7 : Int32} {v8 : Int32} {v9 : Int64} {v11 : Int64} {R : Int32 → Int32 → RS → Prop} {K : Int32 → RS → Prop} {Q : Int32 → RS → Prop} (C : Cx x g cX0_split RX0 wsX0_split rmX0_split yX0_split (some .int) 13) (hZ : Zq x g W0 (fun u : RS => gW g a u) (qI (fun (r : Int32) (u : RS) => Q r u)) 0 0) (hR : ∀ (w4 : Int32) (w8 : Int32) (G_ : RS), R w4 w8 G_ → St x 0 0 (gW g a G_) [(0, .ref (a 50)), (1, .int v1), (4, .int w4), (5, .int v5), (6, .int v6), (7, .int v7), (8, .int w8)] [] 51) (hK : ∀ (w4 : Int32) (G_ : RS), K w4 G_ → St x 0 0 (gW g a G_) [(0, .ref (a 50)), (1, .int v1), (4, .int w4), (5, .int v5)] [] 212) (h : fX0_split_151 N G v1 v4 v5 v6 v7 v8 v9 v11 R K Q) : St x 0 0 (gW g a G) [(0, .ref (a 50)), (1, .int v1), (4, .int v4), (5, .int v5), (6, .int v6), (7, .int v7), (8, .int v8), (9, .long v9), (11, .long v11)] [] 151 := by
  unfold fX0_split_151 at h
  refine r_aload_n C dX0_split_151 rfl ?_
  refine r_get (cn := RX0) (T := TX0) (N := 10) (ci := 0) C uwX0_split_0 0 rfl rfl 8 (by decide) kwX0_split_0 (v := .ref (a 8)) rfl dX0_split_152 ?_
  refine r_iload C dX0_split_155 rfl ?_
  refine r_lload C dX0_split_157 rfl ?_
  refine r_lconst (v := 0) C dX0_split_159 (by decide) ?_
  refine r_lcmp_eq (tgt := 169) C dX0_split_160 dX0_split_161 (by decide) (fun c15 => ?_) (fun c15 => ?_)
  · have h := h.1 c15
    refine r_lload C dX0_split_169 rfl ?_
    refine r_sub [0, 1, 2, 3, 4, 5, 6, 8] (lv' := [(0, .ref (a 50)), (1, .int v1), (4, .int v4), (5, .int v5), (6, .int v6), (7, .int v7), (8, .int v8), (11, .long v11)]) rfl ?_
    exact wfX0_split_171 C hZ hR hK h
  · have h := h.2 c15
    refine r_lload C dX0_split_164 rfl ?_
    refine r_goto (tgt := 171) C dX0_split_166 (by decide) ?_
    refine r_sub [0, 1, 2, 3, 4, 5, 6, 8] (lv' := [(0, .ref (a 50)), (1, .int v1), (4, .int v4), (5, .int v5), (6, .int v6), (7, .int v7), (8, .int v8), (11, .long v11)]) rfl ?_
    exact wfX0_split_171 C hZ hR hK h
def fX0_split_51b (N : Nat) (G : RS) (v1 : Int32) (v4 : Int32) (v5 : Int32) (v6 : Int32) (v7 : Int32) (v8 : Int32) (R : Int32 → Int32 → RS → Prop) (K : Int32 → RS → Prop) (Q : Int32 → RS → Prop) : Prop :=
  ((v7 ≤ v8 → K v4 G) ∧ (¬ v7 ≤ v8 → (vp_in v8 32 ∧ (vp_in v6 20 ∧ (∀ x10 : Int64, x10 = (G.2.2.2 8 v8.toNatClampNeg) &&& (G.2.2.2 2 v6.toNatClampNeg) → (vp_in v8 32 ∧ (vp_in v6 20 ∧ (∀ x13 : Int64, x13 = (G.2.2.2 8 v8.toNatClampNeg) &&& ((G.2.2.2 2 v6.toNatClampNeg) ^^^ (-1 : Int64)) → ((x10 = 0 → (fX0_split_151 N G v1 v4 v5 v6 v7 v8 x10 x13 R K Q)) ∧ (¬ x10 = 0 → ((x13 = 0 → (fX0_split_151 N G v1 v4 v5 v6 v7 v8 x10 x13 R K Q)) ∧ (¬ x13 = 0 → ((32 ≤ v4 → (fX0_split_151 N G v1 v4 v5 v6 v7 v8 x10 x13 R K Q)) ∧ (¬ 32 ≤ v4 → (vp_in v4 32 ∧ (∀ G31 : RS, G31 = sM G 8 (vp_updL (G.2.2.2 8) v4.toNatClampNeg x10) → (vp_in v8 32 ∧ (vp_in v6 20 ∧ (vp_in v4 32 ∧ (∀ G35 : RS, G35 = sA G31 9 (upd (G31.2.1 9) v4.toNatClampNeg ((G31.2.1 9 v8.toNatClampNeg) ||| (G31.2.1 3 v6.toNatClampNeg))) → (∀ x36 : Int32, x36 = v4 + 1 → (fX0_split_151 N G35 v1 x36 v5 v6 v7 v8 x10 x13 R K Q))))))))))))))))))))))
set_option maxRecDepth 100000 in
set_option maxHeartbeats 4000000 in
theorem wfX0_split_51b {x : Nx} {g : Gx} {W0 : va_W} {a : Nat → Nat} {G : RS} {N : Nat} {v1 : Int32} {v4 : Int32} {v5 : Int32} {v6 : Int32} {v7 : Int32} {v8 : Int32} {R : Int32 → Int32 → RS → Prop} {K : Int32 → RS → Prop} {Q : Int32 → RS → Prop} (C : Cx x g cX0_split RX0 wsX0_split rmX0_split yX0_split (some .int) 13) (hZ : Zq x g W0 (fun u : RS => gW g a u) (qI (fun (r : Int32) (u : RS) => Q r u)) 0 0) (hR : ∀ (w4 : Int32) (w8 : Int32) (G_ : RS), R w4 w8 G_ → St x 0 0 (gW g a G_) [(0, .ref (a 50)), (1, .int v1), (4, .int w4), (5, .int v5), (6, .int v6), (7, .int v7), (8, .int w8)] [] 51) (hK : ∀ (w4 : Int32) (G_ : RS), K w4 G_ → St x 0 0 (gW g a G_) [(0, .ref (a 50)), (1, .int v1), (4, .int w4), (5, .int v5)] [] 212) (h : fX0_split_51b N G v1 v4 v5 v6 v7 v8 R K Q) : St x 0 0 (gW g a G) [(0, .ref (a 50)), (1, .int v1), (4, .int v4), (5, .int v5), (6, .int v6), (7, .int v7), (8, .int v8)] [] 51 := by
  unfold fX0_split_51b at h
  refine r_iload C dX0_split_51 rfl ?_
  refine r_iload C dX0_split_53 rfl ?_
  refine r_icmp_ge (tgt := 212) C dX0_split_55 (by decide) (fun c7 => ?_) (fun c7 => ?_)
  · have h := h.1 c7
    refine r_sub [0, 1, 2, 3] (lv' := [(0, .ref (a 50)), (1, .int v1), (4, .int v4), (5, .int v5)]) rfl ?_
    exact hK v4 G h
  · have h := h.2 c7
    refine r_aload_n C dX0_split_58 rfl ?_
    refine r_get (cn := RX0) (T := TX0) (N := 10) (ci := 0) C uwX0_split_0 0 rfl rfl 8 (by decide) kwX0_split_0 (v := .ref (a 8)) rfl dX0_split_59 ?_
    refine r_iload C dX0_split_62 rfl ?_
    obtain ⟨hi8, h⟩ := h
    refine r_lald C 7 rfl hi8 dX0_split_64 ?_
    refine r_aload_n C dX0_split_65 rfl ?_
    refine r_get (cn := RX0) (T := TX0) (N := 10) (ci := 0) C uwX0_split_0 0 rfl rfl 2 (by decide) kwX0_split_4 (v := .ref (a 2)) rfl dX0_split_66 ?_
    refine r_iload C dX0_split_69 rfl ?_
    obtain ⟨hi9, h⟩ := h
    refine r_lald C 2 rfl hi9 dX0_split_71 ?_
    refine r_land C dX0_split_72 ?_
    refine r_topl (fun x10 ex10 => ?_)
    have h := h x10 ex10
    refine r_lstore (lv' := [(0, .ref (a 50)), (1, .int v1), (4, .int v4), (5, .int v5), (6, .int v6), (7, .int v7), (8, .int v8), (9, .long x10)]) C dX0_split_73 [some 0, some 1, some 2, some 3, some 4, some 5, some 6, none] (by decide) rfl rfl ?_
    refine r_aload_n C dX0_split_75 rfl ?_
    refine r_get (cn := RX0) (T := TX0) (N := 10) (ci := 0) C uwX0_split_0 0 rfl rfl 8 (by decide) kwX0_split_0 (v := .ref (a 8)) rfl dX0_split_76 ?_
    refine r_iload C dX0_split_79 rfl ?_
    obtain ⟨hi11, h⟩ := h
    refine r_lald C 7 rfl hi11 dX0_split_81 ?_
    refine r_aload_n C dX0_split_82 rfl ?_
    refine r_get (cn := RX0) (T := TX0) (N := 10) (ci := 0) C uwX0_split_0 0 rfl rfl 2 (by decide) kwX0_split_4 (v := .ref (a 2)) rfl dX0_split_83 ?_
    refine r_iload C dX0_split_86 rfl ?_
    obtain ⟨hi12, h⟩ := h
    refine r_lald C 2 rfl hi12 dX0_split_88 ?_
    refine r_ldc2 C kwX0_split_5 dX0_split_89 ?_
    refine r_lxor C dX0_split_92 ?_
    refine r_land C dX0_split_93 ?_
    refine r_topl (fun x13 ex13 => ?_)
    have h := h x13 ex13
    refine r_lstore (lv' := [(0, .ref (a 50)), (1, .int v1), (4, .int v4), (5, .int v5), (6, .int v6), (7, .int v7), (8, .int v8), (9, .long x10), (11, .long x13)]) C dX0_split_94 [some 0, some 1, some 2, some 3, some 4, some 5, some 6, some 7, none] (by decide) rfl rfl ?_
    refine r_lload C dX0_split_96 rfl ?_
    refine r_lconst (v := 0) C dX0_split_98 (by decide) ?_
    refine r_lcmp_eq (tgt := 151) C dX0_split_99 dX0_split_100 (by decide) (fun c14 => ?_) (fun c14 => ?_)
    · have h := h.1 c14
      exact wfX0_split_151 C hZ hR hK h
    · have h := h.2 c14
      refine r_lload C dX0_split_103 rfl ?_
      refine r_lconst (v := 0) C dX0_split_105 (by decide) ?_
      refine r_lcmp_eq (tgt := 151) C dX0_split_106 dX0_split_107 (by decide) (fun c28 => ?_) (fun c28 => ?_)
      · have h := h.1 c28
        exact wfX0_split_151 C hZ hR hK h
      · have h := h.2 c28
        refine r_iload C dX0_split_110 rfl ?_
        refine r_bipush (v := 32) C dX0_split_112 (by decide) ?_
        refine r_icmp_ge (tgt := 151) C dX0_split_114 (by decide) (fun c29 => ?_) (fun c29 => ?_)
        · have h := h.1 c29
          exact wfX0_split_151 C hZ hR hK h
        · have h := h.2 c29
          refine r_aload_n C dX0_split_117 rfl ?_
          refine r_get (cn := RX0) (T := TX0) (N := 10) (ci := 0) C uwX0_split_0 0 rfl rfl 8 (by decide) kwX0_split_0 (v := .ref (a 8)) rfl dX0_split_118 ?_
          refine r_iload C dX0_split_121 rfl ?_
          refine r_lload C dX0_split_123 rfl ?_
          obtain ⟨hi30, h⟩ := h
          obtain ⟨G31, hG31⟩ : ∃ z : RS, z = sM G 8 (vp_updL (G.2.2.2 8) v4.toNatClampNeg x10) := ⟨_, rfl⟩
          have h := h G31 hG31
          refine r_last (ws' := gW g a G31) C 7 rfl hi30 dX0_split_125 (by rw [hG31]; rfl) ?_
          refine r_aload_n C dX0_split_126 rfl ?_
          refine r_get (cn := RX0) (T := TX0) (N := 10) (ci := 0) C uwX0_split_0 0 rfl rfl 9 (by decide) kwX0_split_2 (v := .ref (a 9)) rfl dX0_split_127 ?_
          refine r_iload C dX0_split_130 rfl ?_
          refine r_aload_n C dX0_split_132 rfl ?_
          refine r_get (cn := RX0) (T := TX0) (N := 10) (ci := 0) C uwX0_split_0 0 rfl rfl 9 (by decide) kwX0_split_2 (v := .ref (a 9)) rfl dX0_split_133 ?_
          refine r_iload C dX0_split_136 rfl ?_
          obtain ⟨hi32, h⟩ := h
          refine r_iald C 8 rfl hi32 dX0_split_138 ?_
          refine r_aload_n C dX0_split_139 rfl ?_
          refine r_get (cn := RX0) (T := TX0) (N := 10) (ci := 0) C uwX0_split_0 0 rfl rfl 3 (by decide) kwX0_split_6 (v := .ref (a 3)) rfl dX0_split_140 ?_
          refine r_iload C dX0_split_143 rfl ?_
          obtain ⟨hi33, h⟩ := h
          refine r_iald C 3 rfl hi33 dX0_split_145 ?_
          refine r_ior C dX0_split_146 ?_
          obtain ⟨hi34, h⟩ := h
          obtain ⟨G35, hG35⟩ : ∃ z : RS, z = sA G31 9 (upd (G31.2.1 9) v4.toNatClampNeg ((G31.2.1 9 v8.toNatClampNeg) ||| (G31.2.1 3 v6.toNatClampNeg))) := ⟨_, rfl⟩
          have h := h G35 hG35
          refine r_iast (ws' := gW g a G35) C 8 rfl hi34 dX0_split_147 (by rw [hG35]; rfl) ?_
          obtain ⟨x36, ex36⟩ : ∃ z : Int32, z = v4 + 1 := ⟨_, rfl⟩
          have h := h x36 ex36
          refine r_iinc (v := x36) (lv' := [(0, .ref (a 50)), (1, .int v1), (4, .int x36), (5, .int v5), (6, .int v6), (7, .int v7), (8, .int v8), (9, .long x10), (11, .long x13)]) C dX0_split_148 rfl (by rw [ex36]; rfl) [some 0, some 1, none, some 3, some 4, some 5, some 6, some 7, some 8] (by decide) rfl rfl ?_
          exact wfX0_split_151 C hZ hR hK h
def fX0_split_51 (N : Nat) (v1 : Int32) (v5 : Int32) (v6 : Int32) (v7 : Int32) (K : Int32 → RS → Prop) (Q : Int32 → RS → Prop) : Nat → Int32 → Int32 → RS → Prop
  | 0, _, _, _ => False
  | n + 1, v4, v8, G => fX0_split_51b N G v1 v4 v5 v6 v7 v8 (fun v4 v8 G => fX0_split_51 N v1 v5 v6 v7 K Q n v4 v8 G) K Q
set_option maxRecDepth 100000 in
set_option maxHeartbeats 4000000 in
theorem wfX0_split_51 {x : Nx} {g : Gx} {W0 : va_W} {a : Nat → Nat}  {N : Nat} {v1 : Int32} {v5 : Int32} {v6 : Int32} {v7 : Int32} {K : Int32 → RS → Prop} {Q : Int32 → RS → Prop} (C : Cx x g cX0_split RX0 wsX0_split rmX0_split yX0_split (some .int) 13) (hZ : Zq x g W0 (fun u : RS => gW g a u) (qI (fun (r : Int32) (u : RS) => Q r u)) 0 0) (hK : ∀ (w4 : Int32) (G_ : RS), K w4 G_ → St x 0 0 (gW g a G_) [(0, .ref (a 50)), (1, .int v1), (4, .int w4), (5, .int v5)] [] 212) : ∀ (n : Nat) (v4 : Int32) (v8 : Int32) (G : RS), fX0_split_51 N v1 v5 v6 v7 K Q n v4 v8 G → St x 0 0 (gW g a G) [(0, .ref (a 50)), (1, .int v1), (4, .int v4), (5, .int v5), (6, .int v6), (7, .int v7), (8, .int v8)] [] 51 := by
  intro n
  induction n with
  | zero => intro v4 v8 G h; exact False.elim h
  | succ n ih => intro v4 v8 G h; exact wfX0_split_51b C hZ ih hK h
def fX0_split_20b (N : Nat) (G : RS) (v1 : Int32) (v4 : Int32) (v5 : Int32) (R : Int32 → Int32 → RS → Prop) (K : Int32 → RS → Prop) (Q : Int32 → RS → Prop) : Prop :=
  (((G.1 0) ≤ v5 → K v4 G) ∧ (¬ (G.1 0) ≤ v5 → (∀ x6 : Int32, x6 = ((4 : Int32) * v5) + (((v1.toUInt32 >>> (((2 : Int32) * v5).toUInt32 &&& Int32.toUInt32 31)).toInt32) &&& (3 : Int32)) → (fX0_split_51 N v1 v5 x6 v4 (fun x37 G38 => (∀ x39 : Int32, x39 = v5 + 1 → R x37 x39 G38)) Q N v4 0 G))))
set_option maxRecDepth 100000 in
set_option maxHeartbeats 4000000 in
theorem wfX0_split_20b {x : Nx} {g : Gx} {W0 : va_W} {a : Nat → Nat} {G : RS} {N : Nat} {v1 : Int32} {v4 : Int32} {v5 : Int32} {R : Int32 → Int32 → RS → Prop} {K : Int32 → RS → Prop} {Q : Int32 → RS → Prop} (C : Cx x g cX0_split RX0 wsX0_split rmX0_split yX0_split (some .int) 13) (hZ : Zq x g W0 (fun u : RS => gW g a u) (qI (fun (r : Int32) (u : RS) => Q r u)) 0 0) (hR : ∀ (w4 : Int32) (w5 : Int32) (G_ : RS), R w4 w5 G_ → St x 0 0 (gW g a G_) [(0, .ref (a 50)), (1, .int v1), (4, .int w4), (5, .int w5)] [] 20) (hK : ∀ (w4 : Int32) (G_ : RS), K w4 G_ → St x 0 0 (gW g a G_) [(4, .int w4)] [] 218) (h : fX0_split_20b N G v1 v4 v5 R K Q) : St x 0 0 (gW g a G) [(0, .ref (a 50)), (1, .int v1), (4, .int v4), (5, .int v5)] [] 20 := by
  unfold fX0_split_20b at h
  refine r_iload C dX0_split_20 rfl ?_
  refine r_aload_n C dX0_split_22 rfl ?_
  refine r_get (cn := RX0) (T := TX0) (N := 10) (ci := 0) C uwX0_split_0 0 rfl rfl 0 (by decide) kwX0_split_3 (v := .int (G.1 0)) rfl dX0_split_23 ?_
  refine r_icmp_ge (tgt := 218) C dX0_split_26 (by decide) (fun c5 => ?_) (fun c5 => ?_)
  · have h := h.1 c5
    refine r_sub [2] (lv' := [(4, .int v4)]) rfl ?_
    exact hK v4 G h
  · have h := h.2 c5
    refine r_iconst (v := 4) C dX0_split_29 (by decide) ?_
    refine r_iload C dX0_split_30 rfl ?_
    refine r_imul C dX0_split_32 ?_
    refine r_iload_n C dX0_split_33 rfl ?_
    refine r_iconst (v := 2) C dX0_split_34 (by decide) ?_
    refine r_iload C dX0_split_35 rfl ?_
    refine r_imul C dX0_split_37 ?_
    refine r_iushr C dX0_split_38 ?_
    refine r_iconst (v := 3) C dX0_split_39 (by decide) ?_
    refine r_iand C dX0_split_40 ?_
    refine r_iadd C dX0_split_41 ?_
    refine r_topi (fun x6 ex6 => ?_)
    have h := h x6 ex6
    refine r_istore (lv' := [(0, .ref (a 50)), (1, .int v1), (4, .int v4), (5, .int v5), (6, .int x6)]) C dX0_split_42 [some 0, some 1, some 2, some 3, none] (by decide) rfl rfl ?_
    refine r_iload C dX0_split_44 rfl ?_
    refine r_istore (lv' := [(0, .ref (a 50)), (1, .int v1), (4, .int v4), (5, .int v5), (6, .int x6), (7, .int v4)]) C dX0_split_46 [some 0, some 1, some 2, some 3, some 4, none] (by decide) rfl rfl ?_
    refine r_iconst (v := 0) C dX0_split_48 (by decide) ?_
    refine r_istore (lv' := [(0, .ref (a 50)), (1, .int v1), (4, .int v4), (5, .int v5), (6, .int x6), (7, .int v4), (8, .int 0)]) C dX0_split_49 [some 0, some 1, some 2, some 3, some 4, some 5, none] (by decide) rfl rfl ?_
    refine wfX0_split_51 C hZ (fun x37 G38 h => ?_) N _ _ _ h
    obtain ⟨x39, ex39⟩ : ∃ z : Int32, z = v5 + 1 := ⟨_, rfl⟩
    have h := h x39 ex39
    refine r_iinc (v := x39) (lv' := [(0, .ref (a 50)), (1, .int v1), (4, .int x37), (5, .int x39)]) C dX0_split_212 rfl (by rw [ex39]; rfl) [some 0, some 1, some 2, none] (by decide) rfl rfl ?_
    refine r_goto (tgt := 20) C dX0_split_215 (by decide) ?_
    exact hR x37 x39 G38 h
def fX0_split_20 (N : Nat) (v1 : Int32) (K : Int32 → RS → Prop) (Q : Int32 → RS → Prop) : Nat → Int32 → Int32 → RS → Prop
  | 0, _, _, _ => False
  | n + 1, v4, v5, G => fX0_split_20b N G v1 v4 v5 (fun v4 v5 G => fX0_split_20 N v1 K Q n v4 v5 G) K Q
set_option maxRecDepth 100000 in
set_option maxHeartbeats 4000000 in
theorem wfX0_split_20 {x : Nx} {g : Gx} {W0 : va_W} {a : Nat → Nat}  {N : Nat} {v1 : Int32} {K : Int32 → RS → Prop} {Q : Int32 → RS → Prop} (C : Cx x g cX0_split RX0 wsX0_split rmX0_split yX0_split (some .int) 13) (hZ : Zq x g W0 (fun u : RS => gW g a u) (qI (fun (r : Int32) (u : RS) => Q r u)) 0 0) (hK : ∀ (w4 : Int32) (G_ : RS), K w4 G_ → St x 0 0 (gW g a G_) [(4, .int w4)] [] 218) : ∀ (n : Nat) (v4 : Int32) (v5 : Int32) (G : RS), fX0_split_20 N v1 K Q n v4 v5 G → St x 0 0 (gW g a G) [(0, .ref (a 50)), (1, .int v1), (4, .int v4), (5, .int v5)] [] 20 := by
  intro n
  induction n with
  | zero => intro v4 v5 G h; exact False.elim h
  | succ n ih => intro v4 v5 G h; exact wfX0_split_20b C hZ ih hK h
def fX0_split (N : Nat) (G : RS) (v1 : Int32) (v2 : Int64) (Q : Int32 → RS → Prop) : Prop :=
  (vp_in 0 32 ∧ (∀ G2 : RS, G2 = sM G 8 (vp_updL (G.2.2.2 8) (0 : Int32).toNatClampNeg v2) → (vp_in 0 32 ∧ (∀ G4 : RS, G4 = sA G2 9 (upd (G2.2.1 9) (0 : Int32).toNatClampNeg 0) → (fX0_split_20 N v1 (fun x40 G41 => Q x40 G41) Q N 1 0 G4)))))
set_option maxRecDepth 100000 in
set_option maxHeartbeats 4000000 in
theorem tX0_split (l : Launch) (g : Gx) (a : Nat → Nat) (G : RS) (N : Nat) (v1 : Int32) (v2 : Int64) (Q : Int32 → RS → Prop) (h : fX0_split N G v1 v2 Q) : MetG l g yX0_split wsX0_split rmX0_split [.ref (a 50), .int v1, .long v2] (gW g a G) (fun u : RS => gW g a u) (qI (fun (r : Int32) (u : RS) => Q r u)) 0 0 := by
  refine met_of (cc := cX0_split) (own := RX0) (nL := 13) (ret := (some .int)) (lv := [(0, .ref (a 50)), (1, .int v1), (2, .long v2)]) (by decide) rfl rfl (Nat.le_of_ble_eq_true rfl) rfl ?_
  intro x C hl hZ
  subst hl
  unfold fX0_split at h
  refine r_aload_n C dX0_split_0 rfl ?_
  refine r_get (cn := RX0) (T := TX0) (N := 10) (ci := 0) C uwX0_split_0 0 rfl rfl 8 (by decide) kwX0_split_0 (v := .ref (a 8)) rfl dX0_split_1 ?_
  refine r_iconst (v := 0) C dX0_split_4 (by decide) ?_
  refine r_lload_n C dX0_split_5 rfl ?_
  obtain ⟨hi1, h⟩ := h
  obtain ⟨G2, hG2⟩ : ∃ z : RS, z = sM G 8 (vp_updL (G.2.2.2 8) (0 : Int32).toNatClampNeg v2) := ⟨_, rfl⟩
  have h := h G2 hG2
  refine r_last (ws' := gW g a G2) C 7 rfl hi1 dX0_split_6 (by rw [hG2]; rfl) ?_
  refine r_aload_n C dX0_split_7 rfl ?_
  refine r_get (cn := RX0) (T := TX0) (N := 10) (ci := 0) C uwX0_split_0 0 rfl rfl 9 (by decide) kwX0_split_2 (v := .ref (a 9)) rfl dX0_split_8 ?_
  refine r_iconst (v := 0) C dX0_split_11 (by decide) ?_
  refine r_iconst (v := 0) C dX0_split_12 (by decide) ?_
  obtain ⟨hi3, h⟩ := h
  obtain ⟨G4, hG4⟩ : ∃ z : RS, z = sA G2 9 (upd (G2.2.1 9) (0 : Int32).toNatClampNeg 0) := ⟨_, rfl⟩
  have h := h G4 hG4
  refine r_iast (ws' := gW g a G4) C 8 rfl hi3 dX0_split_13 (by rw [hG4]; rfl) ?_
  refine r_iconst (v := 1) C dX0_split_14 (by decide) ?_
  refine r_istore (lv' := [(0, .ref (a 50)), (1, .int v1), (4, .int 1)]) C dX0_split_15 [some 0, some 1, none] (by decide) rfl rfl ?_
  refine r_iconst (v := 0) C dX0_split_17 (by decide) ?_
  refine r_istore (lv' := [(0, .ref (a 50)), (1, .int v1), (4, .int 1), (5, .int 0)]) C dX0_split_18 [some 0, some 1, some 2, none] (by decide) rfl rfl ?_
  refine wfX0_split_20 C hZ (fun x40 G41 h => ?_) N _ _ _ h
  refine r_iload C dX0_split_218 rfl ?_
  exact r_iret C hZ (u := G41) h rfl dX0_split_220
def rmX0_openBefore : Room := { frames := 1, cells := 0, slots := 0, locals := 32 }
theorem kwX0_openBefore_0 : Cond.fieldLink RX0 35 "WantsBench$Game" "size" "I" ∈ wsX0_openBefore := by decide +kernel
theorem uwX0_openBefore_0 : ∀ w ∈ wsX00, w ∈ wsX0_openBefore := by decide +kernel
theorem kwX0_openBefore_2 : Cond.fieldLink RX0 26 "WantsBench$Game" "lost" "[I" ∈ wsX0_openBefore := by decide +kernel
theorem kwX0_openBefore_3 : Cond.fieldLink RX0 32 "WantsBench$Game" "wayEnds" "[I" ∈ wsX0_openBefore := by decide +kernel
theorem kwX0_openBefore_4 : Cond.fieldLink RX0 29 "WantsBench$Game" "wayTolds" "[J" ∈ wsX0_openBefore := by decide +kernel
def fX0_openBefore_52 (N : Nat) (G : RS) (v2 : Int32) (v3 : Int32) (v4 : Int64) (v6 : Int32) (R : Int64 → Int32 → Prop) (K : Int64 → Prop) (Q : Int64 → RS → Prop) : Prop :=
  (vp_in v6 32 ∧ (∀ x10 : Int64, x10 = v4 ||| (G.2.2.2 8 v6.toNatClampNeg) → (∀ x11 : Int32, x11 = v6 + 1 → R x10 x11)))
set_option maxRecDepth 100000 in
set_option maxHeartbeats 4000000 in
theorem wfX0_openBefore_52 {x : Nx} {g : Gx} {W0 : va_W} {a : Nat → Nat} {G : RS} {N : Nat} {v2 : Int32} {v3 : Int32} {v4 : Int64} {v6 : Int32} {R : Int64 → Int32 → Prop} {K : Int64 → Prop} {Q : Int64 → RS → Prop} (C : Cx x g cX0_openBefore RX0 wsX0_openBefore rmX0_openBefore yX0_openBefore (some .long) 8) (hZ : Zq x g W0 (fun u : RS => gW g a u) (qL (fun (r : Int64) (u : RS) => Q r u)) 0 0) (hR : ∀ (w4 : Int64) (w6 : Int32), R w4 w6 → St x 0 0 (gW g a G) [(0, .ref (a 50)), (2, .int v2), (3, .int v3), (4, .long w4), (6, .int w6)] [] 21) (hK : ∀ (w4 : Int64), K w4 → St x 0 0 (gW g a G) [(4, .long w4)] [] 70) (h : fX0_openBefore_52 N G v2 v3 v4 v6 R K Q) : St x 0 0 (gW g a G) [(0, .ref (a 50)), (2, .int v2), (3, .int v3), (4, .long v4), (6, .int v6)] [] 52 := by
  unfold fX0_openBefore_52 at h
  refine r_lload C dX0_openBefore_52 rfl ?_
  refine r_aload_n C dX0_openBefore_54 rfl ?_
  refine r_get (cn := RX0) (T := TX0) (N := 10) (ci := 0) C uwX0_openBefore_0 0 rfl rfl 8 (by decide) kwX0_openBefore_4 (v := .ref (a 8)) rfl dX0_openBefore_55 ?_
  refine r_iload C dX0_openBefore_58 rfl ?_
  obtain ⟨hi9, h⟩ := h
  refine r_lald C 7 rfl hi9 dX0_openBefore_60 ?_
  refine r_lor C dX0_openBefore_61 ?_
  refine r_topl (fun x10 ex10 => ?_)
  have h := h x10 ex10
  refine r_lstore (lv' := [(0, .ref (a 50)), (2, .int v2), (3, .int v3), (4, .long x10), (6, .int v6)]) C dX0_openBefore_62 [some 0, some 1, some 2, none, some 4] (by decide) rfl rfl ?_
  obtain ⟨x11, ex11⟩ : ∃ z : Int32, z = v6 + 1 := ⟨_, rfl⟩
  have h := h x11 ex11
  refine r_iinc (v := x11) (lv' := [(0, .ref (a 50)), (2, .int v2), (3, .int v3), (4, .long x10), (6, .int x11)]) C dX0_openBefore_64 rfl (by rw [ex11]; rfl) [some 0, some 1, some 2, some 3, none] (by decide) rfl rfl ?_
  refine r_goto (tgt := 21) C dX0_openBefore_67 (by decide) ?_
  exact hR x10 x11 h
def fX0_openBefore_21b (N : Nat) (G : RS) (v2 : Int32) (v3 : Int32) (v4 : Int64) (v6 : Int32) (R : Int64 → Int32 → Prop) (K : Int64 → Prop) (Q : Int64 → RS → Prop) : Prop :=
  ((v3 ≤ v6 → K v4) ∧ (¬ v3 ≤ v6 → (vp_in v6 32 ∧ (vp_in (G.2.1 9 v6.toNatClampNeg) 1024 ∧ (∀ x7 : Int32, x7 = G.2.1 7 (G.2.1 9 v6.toNatClampNeg).toNatClampNeg → ((x7 = 0 → (fX0_openBefore_52 N G v2 v3 v4 v6 R K Q)) ∧ (¬ x7 = 0 → ((x7 < v2 → (∀ x13 : Int32, x13 = v6 + 1 → R v4 x13)) ∧ (¬ x7 < v2 → (fX0_openBefore_52 N G v2 v3 v4 v6 R K Q))))))))))
set_option maxRecDepth 100000 in
set_option maxHeartbeats 4000000 in
theorem wfX0_openBefore_21b {x : Nx} {g : Gx} {W0 : va_W} {a : Nat → Nat} {G : RS} {N : Nat} {v2 : Int32} {v3 : Int32} {v4 : Int64} {v6 : Int32} {R : Int64 → Int32 → Prop} {K : Int64 → Prop} {Q : Int64 → RS → Prop} (C : Cx x g cX0_openBefore RX0 wsX0_openBefore rmX0_openBefore yX0_openBefore (some .long) 8) (hZ : Zq x g W0 (fun u : RS => gW g a u) (qL (fun (r : Int64) (u : RS) => Q r u)) 0 0) (hR : ∀ (w4 : Int64) (w6 : Int32), R w4 w6 → St x 0 0 (gW g a G) [(0, .ref (a 50)), (2, .int v2), (3, .int v3), (4, .long w4), (6, .int w6)] [] 21) (hK : ∀ (w4 : Int64), K w4 → St x 0 0 (gW g a G) [(4, .long w4)] [] 70) (h : fX0_openBefore_21b N G v2 v3 v4 v6 R K Q) : St x 0 0 (gW g a G) [(0, .ref (a 50)), (2, .int v2), (3, .int v3), (4, .long v4), (6, .int v6)] [] 21 := by
  unfold fX0_openBefore_21b at h
  refine r_iload C dX0_openBefore_21 rfl ?_
  refine r_iload_n C dX0_openBefore_23 rfl ?_
  refine r_icmp_ge (tgt := 70) C dX0_openBefore_24 (by decide) (fun c4 => ?_) (fun c4 => ?_)
  · have h := h.1 c4
    refine r_sub [3] (lv' := [(4, .long v4)]) rfl ?_
    exact hK v4 h
  · have h := h.2 c4
    refine r_aload_n C dX0_openBefore_27 rfl ?_
    refine r_get (cn := RX0) (T := TX0) (N := 10) (ci := 0) C uwX0_openBefore_0 0 rfl rfl 7 (by decide) kwX0_openBefore_2 (v := .ref (a 7)) rfl dX0_openBefore_28 ?_
    refine r_aload_n C dX0_openBefore_31 rfl ?_
    refine r_get (cn := RX0) (T := TX0) (N := 10) (ci := 0) C uwX0_openBefore_0 0 rfl rfl 9 (by decide) kwX0_openBefore_3 (v := .ref (a 9)) rfl dX0_openBefore_32 ?_
    refine r_iload C dX0_openBefore_35 rfl ?_
    obtain ⟨hi5, h⟩ := h
    refine r_iald C 8 rfl hi5 dX0_openBefore_37 ?_
    obtain ⟨hi6, h⟩ := h
    refine r_iald C 6 rfl hi6 dX0_openBefore_38 ?_
    refine r_topi (fun x7 ex7 => ?_)
    have h := h x7 ex7
    refine r_istore (lv' := [(0, .ref (a 50)), (2, .int v2), (3, .int v3), (4, .long v4), (6, .int v6), (7, .int x7)]) C dX0_openBefore_39 [some 0, some 1, some 2, some 3, some 4, none] (by decide) rfl rfl ?_
    refine r_iload C dX0_openBefore_41 rfl ?_
    refine r_if_eq (tgt := 52) C dX0_openBefore_43 (by decide) (fun c8 => ?_) (fun c8 => ?_)
    · have h := h.1 c8
      refine r_sub [0, 1, 2, 3, 4] (lv' := [(0, .ref (a 50)), (2, .int v2), (3, .int v3), (4, .long v4), (6, .int v6)]) rfl ?_
      exact wfX0_openBefore_52 C hZ hR hK h
    · have h := h.2 c8
      refine r_iload C dX0_openBefore_46 rfl ?_
      refine r_iload_n C dX0_openBefore_48 rfl ?_
      refine r_icmp_lt (tgt := 64) C dX0_openBefore_49 (by decide) (fun c12 => ?_) (fun c12 => ?_)
      · have h := h.1 c12
        obtain ⟨x13, ex13⟩ : ∃ z : Int32, z = v6 + 1 := ⟨_, rfl⟩
        have h := h x13 ex13
        refine r_iinc (v := x13) (lv' := [(0, .ref (a 50)), (2, .int v2), (3, .int v3), (4, .long v4), (6, .int x13)]) C dX0_openBefore_64 rfl (by rw [ex13]; rfl) [some 0, some 1, some 2, some 3, none] (by decide) rfl rfl ?_
        refine r_goto (tgt := 21) C dX0_openBefore_67 (by decide) ?_
        exact hR v4 x13 h
      · have h := h.2 c12
        refine r_sub [0, 1, 2, 3, 4] (lv' := [(0, .ref (a 50)), (2, .int v2), (3, .int v3), (4, .long v4), (6, .int v6)]) rfl ?_
        exact wfX0_openBefore_52 C hZ hR hK h
def fX0_openBefore_21 (N : Nat) (G : RS) (v2 : Int32) (v3 : Int32) (K : Int64 → Prop) (Q : Int64 → RS → Prop) : Nat → Int64 → Int32 → Prop
  | 0, _, _ => False
  | n + 1, v4, v6 => fX0_openBefore_21b N G v2 v3 v4 v6 (fun v4 v6 => fX0_openBefore_21 N G v2 v3 K Q n v4 v6) K Q
set_option maxRecDepth 100000 in
set_option maxHeartbeats 4000000 in
theorem wfX0_openBefore_21 {x : Nx} {g : Gx} {W0 : va_W} {a : Nat → Nat} {G : RS} {N : Nat} {v2 : Int32} {v3 : Int32} {K : Int64 → Prop} {Q : Int64 → RS → Prop} (C : Cx x g cX0_openBefore RX0 wsX0_openBefore rmX0_openBefore yX0_openBefore (some .long) 8) (hZ : Zq x g W0 (fun u : RS => gW g a u) (qL (fun (r : Int64) (u : RS) => Q r u)) 0 0) (hK : ∀ (w4 : Int64), K w4 → St x 0 0 (gW g a G) [(4, .long w4)] [] 70) : ∀ (n : Nat) (v4 : Int64) (v6 : Int32), fX0_openBefore_21 N G v2 v3 K Q n v4 v6 → St x 0 0 (gW g a G) [(0, .ref (a 50)), (2, .int v2), (3, .int v3), (4, .long v4), (6, .int v6)] [] 21 := by
  intro n
  induction n with
  | zero => intro v4 v6 h; exact False.elim h
  | succ n ih => intro v4 v6 h; exact wfX0_openBefore_21b C hZ ih hK h
def fX0_openBefore (N : Nat) (G : RS) (v1 : Int32) (v2 : Int32) (Q : Int64 → RS → Prop) : Prop :=
  (fX0_unbroken N G v1 (G.1 0) (fun r1 => (fX0_split N G v1 r1 (fun r2 G3 => (fX0_openBefore_21 N G3 v2 r2 (fun x14 => Q x14 G3) Q N 0 0)))))
set_option maxRecDepth 100000 in
set_option maxHeartbeats 4000000 in
theorem tX0_openBefore (l : Launch) (g : Gx) (a : Nat → Nat) (G : RS) (N : Nat) (v1 : Int32) (v2 : Int32) (Q : Int64 → RS → Prop) (h : fX0_openBefore N G v1 v2 Q) : MetG l g yX0_openBefore wsX0_openBefore rmX0_openBefore [.ref (a 50), .int v1, .int v2] (gW g a G) (fun u : RS => gW g a u) (qL (fun (r : Int64) (u : RS) => Q r u)) 0 0 := by
  refine met_of (cc := cX0_openBefore) (own := RX0) (nL := 8) (ret := (some .long)) (lv := [(0, .ref (a 50)), (1, .int v1), (2, .int v2)]) (by decide) rfl rfl (Nat.le_of_ble_eq_true rfl) rfl ?_
  intro x C hl hZ
  subst hl
  unfold fX0_openBefore at h
  refine r_aload_n C dX0_openBefore_0 rfl ?_
  refine r_iload_n C dX0_openBefore_1 rfl ?_
  refine r_aload_n C dX0_openBefore_2 rfl ?_
  refine r_iload_n C dX0_openBefore_3 rfl ?_
  refine r_aload_n C dX0_openBefore_4 rfl ?_
  refine r_get (cn := RX0) (T := TX0) (N := 10) (ci := 0) C uwX0_openBefore_0 0 rfl rfl 0 (by decide) kwX0_openBefore_0 (v := .int (G.1 0)) rfl dX0_openBefore_5 ?_
  refine callR_L C (run_V (As := [.int v1, .int (G.1 0)]) (rest := [.int v1, .ref (a 50)]) (ci := 0) C hZ.2.2 (tX0_unbroken _ g a G N v1 (G.1 0) _ h) gX0_openBefore_X0_unbroken rfl dsX0_unbroken rfl rfl ⟨(Nat.le_of_ble_eq_true rfl), (Nat.le_of_ble_eq_true rfl)⟩ rfl (List.mem_of_getElem? (i := 0) rfl) rfl (Nat.le_of_ble_eq_true rfl) dX0_openBefore_8 ⟨Nat.zero_le _, Nat.zero_le _⟩) (List.Sublist.refl _) (fun _ => rfl) (fun r1 _ h => ?_)
  refine callW_I C (run_V (As := [.int v1, .long r1]) (rest := []) (ci := 0) C hZ.2.2 (tX0_split _ g a G N v1 r1 _ h) gX0_openBefore_X0_split rfl dsX0_split rfl rfl ⟨(Nat.le_of_ble_eq_true rfl), (Nat.le_of_ble_eq_true rfl)⟩ rfl (List.mem_of_getElem? (i := 0) rfl) rfl (Nat.le_of_ble_eq_true rfl) dX0_openBefore_11 ⟨Nat.zero_le _, Nat.zero_le _⟩) (fun r2 G3 h => ?_)
  show St x 0 0 (gW g a G3) _ _ 14
  refine r_istore_n (lv' := [(0, .ref (a 50)), (2, .int v2), (3, .int r2)]) C dX0_openBefore_14 [some 0, some 2, none] (by decide) rfl rfl ?_
  refine r_lconst (v := 0) C dX0_openBefore_15 (by decide) ?_
  refine r_lstore (lv' := [(0, .ref (a 50)), (2, .int v2), (3, .int r2), (4, .long 0)]) C dX0_openBefore_16 [some 0, some 1, some 2, none] (by decide) rfl rfl ?_
  refine r_iconst (v := 0) C dX0_openBefore_18 (by decide) ?_
  refine r_istore (lv' := [(0, .ref (a 50)), (2, .int v2), (3, .int r2), (4, .long 0), (6, .int 0)]) C dX0_openBefore_19 [some 0, some 1, some 2, some 3, none] (by decide) rfl rfl ?_
  refine wfX0_openBefore_21 C hZ (fun x14 h => ?_) N _ _ h
  refine r_lload C dX0_openBefore_70 rfl ?_
  exact r_lret C hZ (u := G3) h rfl dX0_openBefore_72
def rmX0_firstWithoutOut : Room := { frames := 0, cells := 0, slots := 0, locals := 0 }
theorem kwX0_firstWithoutOut_0 : Cond.constantLong RX0 97 255 ∈ wsX0_firstWithoutOut := by decide +kernel
def fX0_firstWithoutOut_2b (N : Nat) (v0 : Int64) (v2 : Int32) (R : Int32 → Prop) (K : Prop) (Q : Int32 → Prop) : Prop :=
  ((8 ≤ v2 → K) ∧ (¬ 8 ≤ v2 → ((¬ (((v0.toUInt64 >>> (((8 : Int32) * v2).toInt64.toUInt64 &&& Int64.toUInt64 63)).toInt64) &&& (255 : Int64)) = 0 → (∀ x3 : Int32, x3 = v2 + 1 → R x3)) ∧ ((((v0.toUInt64 >>> (((8 : Int32) * v2).toInt64.toUInt64 &&& Int64.toUInt64 63)).toInt64) &&& (255 : Int64)) = 0 → Q v2))))
set_option maxRecDepth 100000 in
set_option maxHeartbeats 4000000 in
theorem wfX0_firstWithoutOut_2b {x : Nx} {g : Gx} {W0 : va_W}   {N : Nat} {v0 : Int64} {v2 : Int32} {R : Int32 → Prop} {K : Prop} {Q : Int32 → Prop} (C : Cx x g cX0_firstWithoutOut RX0 wsX0_firstWithoutOut rmX0_firstWithoutOut yX0_firstWithoutOut (some .int) 3) (hZ : Zq x g W0 (fun _ : Unit => ([] : va_W)) (qI (fun (r : Int32) (_ : Unit) => Q r)) 0 0) (hR : ∀ (w2 : Int32), R w2 → St x 0 0 (([] : va_W)) [(0, .long v0), (2, .int w2)] [] 2) (hK : K → St x 0 0 (([] : va_W)) [] [] 31) (h : fX0_firstWithoutOut_2b N v0 v2 R K Q) : St x 0 0 (([] : va_W)) [(0, .long v0), (2, .int v2)] [] 2 := by
  unfold fX0_firstWithoutOut_2b at h
  refine r_iload_n C dX0_firstWithoutOut_2 rfl ?_
  refine r_bipush (v := 8) C dX0_firstWithoutOut_3 (by decide) ?_
  refine r_icmp_ge (tgt := 31) C dX0_firstWithoutOut_5 (by decide) (fun c1 => ?_) (fun c1 => ?_)
  · have h := h.1 c1
    refine r_sub [] (lv' := []) rfl ?_
    exact hK h
  · have h := h.2 c1
    refine r_lload_n C dX0_firstWithoutOut_8 rfl ?_
    refine r_bipush (v := 8) C dX0_firstWithoutOut_9 (by decide) ?_
    refine r_iload_n C dX0_firstWithoutOut_11 rfl ?_
    refine r_imul C dX0_firstWithoutOut_12 ?_
    refine r_lushr C dX0_firstWithoutOut_13 ?_
    refine r_ldc2 C kwX0_firstWithoutOut_0 dX0_firstWithoutOut_14 ?_
    refine r_land C dX0_firstWithoutOut_17 ?_
    refine r_lconst (v := 0) C dX0_firstWithoutOut_18 (by decide) ?_
    refine r_lcmp_ne (tgt := 25) C dX0_firstWithoutOut_19 dX0_firstWithoutOut_20 (by decide) (fun c2 => ?_) (fun c2 => ?_)
    · have h := h.1 c2
      obtain ⟨x3, ex3⟩ : ∃ z : Int32, z = v2 + 1 := ⟨_, rfl⟩
      have h := h x3 ex3
      refine r_iinc (v := x3) (lv' := [(0, .long v0), (2, .int x3)]) C dX0_firstWithoutOut_25 rfl (by rw [ex3]; rfl) [some 0, none] (by decide) rfl rfl ?_
      refine r_goto (tgt := 2) C dX0_firstWithoutOut_28 (by decide) ?_
      exact hR x3 h
    · have h := h.2 c2
      refine r_iload_n C dX0_firstWithoutOut_23 rfl ?_
      exact r_iret C hZ (u := ()) h rfl dX0_firstWithoutOut_24
def fX0_firstWithoutOut_2 (N : Nat) (v0 : Int64) (K : Prop) (Q : Int32 → Prop) : Nat → Int32 → Prop
  | 0, _ => False
  | n + 1, v2 => fX0_firstWithoutOut_2b N v0 v2 (fun v2 => fX0_firstWithoutOut_2 N v0 K Q n v2) K Q
set_option maxRecDepth 100000 in
set_option maxHeartbeats 4000000 in
theorem wfX0_firstWithoutOut_2 {x : Nx} {g : Gx} {W0 : va_W}   {N : Nat} {v0 : Int64} {K : Prop} {Q : Int32 → Prop} (C : Cx x g cX0_firstWithoutOut RX0 wsX0_firstWithoutOut rmX0_firstWithoutOut yX0_firstWithoutOut (some .int) 3) (hZ : Zq x g W0 (fun _ : Unit => ([] : va_W)) (qI (fun (r : Int32) (_ : Unit) => Q r)) 0 0) (hK : K → St x 0 0 (([] : va_W)) [] [] 31) : ∀ (n : Nat) (v2 : Int32), fX0_firstWithoutOut_2 N v0 K Q n v2 → St x 0 0 (([] : va_W)) [(0, .long v0), (2, .int v2)] [] 2 := by
  intro n
  induction n with
  | zero => intro v2 h; exact False.elim h
  | succ n ih => intro v2 h; exact wfX0_firstWithoutOut_2b C hZ ih hK h
def fX0_firstWithoutOut (N : Nat) (v0 : Int64) (Q : Int32 → Prop) : Prop :=
  (fX0_firstWithoutOut_2 N v0 (Q 8) Q N 0)
set_option maxRecDepth 100000 in
set_option maxHeartbeats 4000000 in
theorem tX0_firstWithoutOut (l : Launch) (g : Gx) (N : Nat) (v0 : Int64) (Q : Int32 → Prop) (h : fX0_firstWithoutOut N v0 Q) : MetG l g yX0_firstWithoutOut wsX0_firstWithoutOut rmX0_firstWithoutOut [.long v0] (([] : va_W)) (fun _ : Unit => ([] : va_W)) (qI (fun (r : Int32) (_ : Unit) => Q r)) 0 0 := by
  refine met_of (cc := cX0_firstWithoutOut) (own := RX0) (nL := 3) (ret := (some .int)) (lv := [(0, .long v0)]) (by decide) rfl rfl (Nat.le_of_ble_eq_true rfl) rfl ?_
  intro x C hl hZ
  subst hl
  unfold fX0_firstWithoutOut at h
  refine r_iconst (v := 0) C dX0_firstWithoutOut_0 (by decide) ?_
  refine r_istore_n (lv' := [(0, .long v0), (2, .int 0)]) C dX0_firstWithoutOut_1 [some 0, none] (by decide) rfl rfl ?_
  refine wfX0_firstWithoutOut_2 C hZ (fun h => ?_) N _ h
  refine r_bipush (v := 8) C dX0_firstWithoutOut_31 (by decide) ?_
  exact r_iret C hZ (u := ()) h rfl dX0_firstWithoutOut_33
