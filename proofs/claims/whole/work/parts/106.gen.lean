def rmX5_picked : Room := { frames := 1, cells := 0, slots := 0, locals := 21 }
theorem kwX5_picked_0 : Cond.fieldLink RX5 65 "WantsBench" "lawCount" "I" ∈ wsX5_picked := by decide +kernel
theorem uwX5_picked_5 : ∀ w ∈ wsX50, w ∈ wsX5_picked := by decide +kernel
def fX5_picked_11b (N : Nat) (sb : RS) (v1 : Int32) (v3 : Int32) (v4 : Int32) (v5 : Int32) (v6 : Int32) (R : Int32 → Int32 → Int32 → Prop) (K : Int32 → Prop) (Q : Int32 → Prop) : Prop :=
  (((sb.1 2) ≤ v6 → K v4) ∧ (¬ (sb.1 2) ≤ v6 → (fX5_isIn N v1 v6 (fun r3 => ((r3 = 0 → (∀ x5 : Int32, x5 = v6 + 1 → R v4 v5 x5)) ∧ (¬ r3 = 0 → (fX5_isIn N v3 v5 (fun r6 => ((r6 = 0 → (∀ x8 : Int32, x8 = v5 + (-1) → (∀ x9 : Int32, x9 = v6 + 1 → R v4 x8 x9))) ∧ (¬ r6 = 0 → (∀ x10 : Int32, x10 = v4 ||| ((1 : Int32) <<< (v6 &&& 31)) → (∀ x11 : Int32, x11 = v5 + (-1) → (∀ x12 : Int32, x12 = v6 + 1 → R x10 x11 x12)))))))))))))
set_option maxRecDepth 100000 in
set_option maxHeartbeats 4000000 in
theorem wfX5_picked_11b {x : Nx} {g : Gx} {W0 : va_W} {a : Nat → Nat → Nat} {sb : RS} {lw : Nat → Option Nat} {st : RS} {sp : RS} {sd : RS} {ss : RS} {sy : RS} {si : Nat → Option Nat} {lp : List Nat} {pf : Nat → RS} {N : Nat} {v1 : Int32} {v3 : Int32} {v4 : Int32} {v5 : Int32} {v6 : Int32} {R : Int32 → Int32 → Int32 → Prop} {K : Int32 → Prop} {Q : Int32 → Prop} (C : Cx x g cX5_picked RX5 wsX5_picked rmX5_picked yX5_picked (some .int) 7) (hZ : Zq x g W0 (fun _ : Unit => sysW g a sb lw st sp sd ss sy si lp pf) (qI (fun (r : Int32) (_ : Unit) => Q r)) 0 0) (hR : ∀ (w4 : Int32) (w5 : Int32) (w6 : Int32), R w4 w5 w6 → St x 0 0 (sysW g a sb lw st sp sd ss sy si lp pf) [(0, .ref ((a 0) 50)), (1, .int v1), (3, .int v3), (4, .int w4), (5, .int w5), (6, .int w6)] [] 11) (hK : ∀ (w4 : Int32), K w4 → St x 0 0 (sysW g a sb lw st sp sd ss sy si lp pf) [(4, .int w4)] [] 56) (h : fX5_picked_11b N sb v1 v3 v4 v5 v6 R K Q) : St x 0 0 (sysW g a sb lw st sp sd ss sy si lp pf) [(0, .ref ((a 0) 50)), (1, .int v1), (3, .int v3), (4, .int v4), (5, .int v5), (6, .int v6)] [] 11 := by
  unfold fX5_picked_11b at h
  refine r_iload C dX5_picked_11 rfl ?_
  refine r_aload_n C dX5_picked_13 rfl ?_
  refine r_get (cn := RX5) (T := TX5) (N := 13) (ci := 5) C uwX5_picked_5 0 rfl rfl 2 (by decide) kwX5_picked_0 (v := .int (sb.1 2)) rfl dX5_picked_14 ?_
  refine r_icmp_ge (tgt := 56) C dX5_picked_17 (by decide) (fun c2 => ?_) (fun c2 => ?_)
  · have h := h.1 c2
    refine r_sub [3] (lv' := [(4, .int v4)]) rfl ?_
    exact hK v4 h
  · have h := h.2 c2
    refine r_iload_n C dX5_picked_20 rfl ?_
    refine r_iload C dX5_picked_21 rfl ?_
    refine callR_I C (run_S (As := [.int v1, .int v6]) (rest := []) C hZ.2.2 (tX5_isIn _ g N v1 v6 _ h) gX5_picked_X5_isIn rfl dsX5_isIn rfl rfl ⟨(Nat.le_of_ble_eq_true rfl), (Nat.le_of_ble_eq_true rfl)⟩ rfl (Nat.le_of_ble_eq_true rfl) dX5_picked_23 ⟨Nat.zero_le _, Nat.zero_le _⟩) (List.nil_sublist _) (fun _ => rfl) (fun r3 _ h => ?_)
    refine r_if_eq (tgt := 50) C dX5_picked_26 (by decide) (fun c4 => ?_) (fun c4 => ?_)
    · have h := h.1 c4
      obtain ⟨x5, ex5⟩ : ∃ z : Int32, z = v6 + 1 := ⟨_, rfl⟩
      have h := h x5 ex5
      refine r_iinc (v := x5) (lv' := [(0, .ref ((a 0) 50)), (1, .int v1), (3, .int v3), (4, .int v4), (5, .int v5), (6, .int x5)]) C dX5_picked_50 rfl (by rw [ex5]; rfl) [some 0, some 1, some 2, some 3, some 4, none] (by decide) rfl rfl ?_
      refine r_goto (tgt := 11) C dX5_picked_53 (by decide) ?_
      exact hR v4 v5 x5 h
    · have h := h.2 c4
      refine r_iload_n C dX5_picked_29 rfl ?_
      refine r_iload C dX5_picked_30 rfl ?_
      refine callR_I C (run_S (As := [.int v3, .int v5]) (rest := []) C hZ.2.2 (tX5_isIn _ g N v3 v5 _ h) gX5_picked_X5_isIn rfl dsX5_isIn rfl rfl ⟨(Nat.le_of_ble_eq_true rfl), (Nat.le_of_ble_eq_true rfl)⟩ rfl (Nat.le_of_ble_eq_true rfl) dX5_picked_32 ⟨Nat.zero_le _, Nat.zero_le _⟩) (List.nil_sublist _) (fun _ => rfl) (fun r6 _ h => ?_)
      refine r_if_eq (tgt := 47) C dX5_picked_35 (by decide) (fun c7 => ?_) (fun c7 => ?_)
      · have h := h.1 c7
        obtain ⟨x8, ex8⟩ : ∃ z : Int32, z = v5 + (-1) := ⟨_, rfl⟩
        have h := h x8 ex8
        refine r_iinc (v := x8) (lv' := [(0, .ref ((a 0) 50)), (1, .int v1), (3, .int v3), (4, .int v4), (5, .int x8), (6, .int v6)]) C dX5_picked_47 rfl (by rw [ex8]; rfl) [some 0, some 1, some 2, some 3, none, some 5] (by decide) rfl rfl ?_
        obtain ⟨x9, ex9⟩ : ∃ z : Int32, z = v6 + 1 := ⟨_, rfl⟩
        have h := h x9 ex9
        refine r_iinc (v := x9) (lv' := [(0, .ref ((a 0) 50)), (1, .int v1), (3, .int v3), (4, .int v4), (5, .int x8), (6, .int x9)]) C dX5_picked_50 rfl (by rw [ex9]; rfl) [some 0, some 1, some 2, some 3, some 4, none] (by decide) rfl rfl ?_
        refine r_goto (tgt := 11) C dX5_picked_53 (by decide) ?_
        exact hR v4 x8 x9 h
      · have h := h.2 c7
        refine r_iload C dX5_picked_38 rfl ?_
        refine r_iconst (v := 1) C dX5_picked_40 (by decide) ?_
        refine r_iload C dX5_picked_41 rfl ?_
        refine r_ishl C dX5_picked_43 ?_
        refine r_ior C dX5_picked_44 ?_
        refine r_topi (fun x10 ex10 => ?_)
        have h := h x10 ex10
        refine r_istore (lv' := [(0, .ref ((a 0) 50)), (1, .int v1), (3, .int v3), (4, .int x10), (5, .int v5), (6, .int v6)]) C dX5_picked_45 [some 0, some 1, some 2, none, some 4, some 5] (by decide) rfl rfl ?_
        obtain ⟨x11, ex11⟩ : ∃ z : Int32, z = v5 + (-1) := ⟨_, rfl⟩
        have h := h x11 ex11
        refine r_iinc (v := x11) (lv' := [(0, .ref ((a 0) 50)), (1, .int v1), (3, .int v3), (4, .int x10), (5, .int x11), (6, .int v6)]) C dX5_picked_47 rfl (by rw [ex11]; rfl) [some 0, some 1, some 2, some 3, none, some 5] (by decide) rfl rfl ?_
        obtain ⟨x12, ex12⟩ : ∃ z : Int32, z = v6 + 1 := ⟨_, rfl⟩
        have h := h x12 ex12
        refine r_iinc (v := x12) (lv' := [(0, .ref ((a 0) 50)), (1, .int v1), (3, .int v3), (4, .int x10), (5, .int x11), (6, .int x12)]) C dX5_picked_50 rfl (by rw [ex12]; rfl) [some 0, some 1, some 2, some 3, some 4, none] (by decide) rfl rfl ?_
        refine r_goto (tgt := 11) C dX5_picked_53 (by decide) ?_
        exact hR x10 x11 x12 h
def fX5_picked_11 (N : Nat) (sb : RS) (v1 : Int32) (v3 : Int32) (K : Int32 → Prop) (Q : Int32 → Prop) : Nat → Int32 → Int32 → Int32 → Prop
  | 0, _, _, _ => False
  | n + 1, v4, v5, v6 => fX5_picked_11b N sb v1 v3 v4 v5 v6 (fun v4 v5 v6 => fX5_picked_11 N sb v1 v3 K Q n v4 v5 v6) K Q
set_option maxRecDepth 100000 in
set_option maxHeartbeats 4000000 in
theorem wfX5_picked_11 {x : Nx} {g : Gx} {W0 : va_W} {a : Nat → Nat → Nat} {sb : RS} {lw : Nat → Option Nat} {st : RS} {sp : RS} {sd : RS} {ss : RS} {sy : RS} {si : Nat → Option Nat} {lp : List Nat} {pf : Nat → RS} {N : Nat} {v1 : Int32} {v3 : Int32} {K : Int32 → Prop} {Q : Int32 → Prop} (C : Cx x g cX5_picked RX5 wsX5_picked rmX5_picked yX5_picked (some .int) 7) (hZ : Zq x g W0 (fun _ : Unit => sysW g a sb lw st sp sd ss sy si lp pf) (qI (fun (r : Int32) (_ : Unit) => Q r)) 0 0) (hK : ∀ (w4 : Int32), K w4 → St x 0 0 (sysW g a sb lw st sp sd ss sy si lp pf) [(4, .int w4)] [] 56) : ∀ (n : Nat) (v4 : Int32) (v5 : Int32) (v6 : Int32), fX5_picked_11 N sb v1 v3 K Q n v4 v5 v6 → St x 0 0 (sysW g a sb lw st sp sd ss sy si lp pf) [(0, .ref ((a 0) 50)), (1, .int v1), (3, .int v3), (4, .int v4), (5, .int v5), (6, .int v6)] [] 11 := by
  intro n
  induction n with
  | zero => intro v4 v5 v6 h; exact False.elim h
  | succ n ih => intro v4 v5 v6 h; exact wfX5_picked_11b C hZ ih hK h
def fX5_picked (N : Nat) (sb : RS) (v1 : Int32) (v2 : Int32) (v3 : Int32) (Q : Int32 → Prop) : Prop :=
  (∀ x1 : Int32, x1 = v2 - (1 : Int32) → (fX5_picked_11 N sb v1 v3 (fun x13 => Q x13) Q N 0 x1 0))
set_option maxRecDepth 100000 in
set_option maxHeartbeats 4000000 in
theorem tX5_picked (l : Launch) (g : Gx) (a : Nat → Nat → Nat) (sb : RS) (lw : Nat → Option Nat) (st : RS) (sp : RS) (sd : RS) (ss : RS) (sy : RS) (si : Nat → Option Nat) (lp : List Nat) (pf : Nat → RS) (N : Nat) (v1 : Int32) (v2 : Int32) (v3 : Int32) (Q : Int32 → Prop) (h : fX5_picked N sb v1 v2 v3 Q) : MetG l g yX5_picked wsX5_picked rmX5_picked [.ref ((a 0) 50), .int v1, .int v2, .int v3] (sysW g a sb lw st sp sd ss sy si lp pf) (fun _ : Unit => sysW g a sb lw st sp sd ss sy si lp pf) (qI (fun (r : Int32) (_ : Unit) => Q r)) 0 0 := by
  refine met_of (cc := cX5_picked) (own := RX5) (nL := 7) (ret := (some .int)) (lv := [(0, .ref ((a 0) 50)), (1, .int v1), (2, .int v2), (3, .int v3)]) (by decide) rfl rfl (Nat.le_of_ble_eq_true rfl) rfl ?_
  intro x C hl hZ
  subst hl
  unfold fX5_picked at h
  refine r_iconst (v := 0) C dX5_picked_0 (by decide) ?_
  refine r_istore (lv' := [(0, .ref ((a 0) 50)), (1, .int v1), (2, .int v2), (3, .int v3), (4, .int 0)]) C dX5_picked_1 [some 0, some 1, some 2, some 3, none] (by decide) rfl rfl ?_
  refine r_iload_n C dX5_picked_3 rfl ?_
  refine r_iconst (v := 1) C dX5_picked_4 (by decide) ?_
  refine r_isub C dX5_picked_5 ?_
  refine r_topi (fun x1 ex1 => ?_)
  have h := h x1 ex1
  refine r_istore (lv' := [(0, .ref ((a 0) 50)), (1, .int v1), (3, .int v3), (4, .int 0), (5, .int x1)]) C dX5_picked_6 [some 0, some 1, some 3, some 4, none] (by decide) rfl rfl ?_
  refine r_iconst (v := 0) C dX5_picked_8 (by decide) ?_
  refine r_istore (lv' := [(0, .ref ((a 0) 50)), (1, .int v1), (3, .int v3), (4, .int 0), (5, .int x1), (6, .int 0)]) C dX5_picked_9 [some 0, some 1, some 2, some 3, some 4, none] (by decide) rfl rfl ?_
  refine wfX5_picked_11 C hZ (fun x13 h => ?_) N _ _ _ h
  refine r_iload C dX5_picked_56 rfl ?_
  exact r_iret C hZ (u := ()) h rfl dX5_picked_58
def rmX5_firstQuarrelOf : Room := { frames := 5, cells := 0, slots := 0, locals := 129 }
def fX5_firstQuarrelOf_7b (N : Nat) (sb : RS) (lw : Nat → Option Nat) (sd : RS) (lp : List Nat) (pf : Nat → RS) (v1 : Int32) (v2 : Int32) (v3 : Int32) (v4 : Int32) (R : Int32 → RS → Prop) (K : RS → Prop) (Q : Int32 → RS → Prop) : Prop :=
  ((v4 ≤ 0 → K sd) ∧ (¬ v4 ≤ 0 → (fJ6_bitCount_0f7a4 N v4 (fun r3 => ((¬ r3 = v3 → (∀ x5 : Int32, x5 = v4 + (-1) → R x5 sd)) ∧ (r3 = v3 → (fX5_picked N sb v1 v2 v4 (fun r6 => (fX5_isObeyable N sb lw sd lp pf r6 (fun r7 sd8 => ((¬ r7 = 0 → (∀ x10 : Int32, x10 = v4 + (-1) → R x10 sd8)) ∧ (r7 = 0 → Q r6 sd8))))))))))))
set_option maxRecDepth 100000 in
set_option maxHeartbeats 4000000 in
theorem wfX5_firstQuarrelOf_7b {x : Nx} {g : Gx} {W0 : va_W} {a : Nat → Nat → Nat} {sb : RS} {lw : Nat → Option Nat} {st : RS} {sp : RS} {sd : RS} {ss : RS} {sy : RS} {si : Nat → Option Nat} {lp : List Nat} {pf : Nat → RS} {N : Nat} {v1 : Int32} {v2 : Int32} {v3 : Int32} {v4 : Int32} {R : Int32 → RS → Prop} {K : RS → Prop} {Q : Int32 → RS → Prop} (C : Cx x g cX5_firstQuarrelOf RX5 wsX5_firstQuarrelOf rmX5_firstQuarrelOf yX5_firstQuarrelOf (some .int) 6) (hZ : Zq x g W0 (fun u : RS => sysW g a sb lw st sp u ss sy si lp pf) (qI (fun (r : Int32) (u : RS) => Q r u)) 0 0) (hR : ∀ (w4 : Int32) (sd_ : RS), R w4 sd_ → St x 0 0 (sysW g a sb lw st sp sd_ ss sy si lp pf) [(0, .ref ((a 0) 50)), (1, .int v1), (2, .int v2), (3, .int v3), (4, .int w4)] [] 7) (hK : ∀ (sd_ : RS), K sd_ → St x 0 0 (sysW g a sb lw st sp sd_ ss sy si lp pf) [] [] 49) (h : fX5_firstQuarrelOf_7b N sb lw sd lp pf v1 v2 v3 v4 R K Q) : St x 0 0 (sysW g a sb lw st sp sd ss sy si lp pf) [(0, .ref ((a 0) 50)), (1, .int v1), (2, .int v2), (3, .int v3), (4, .int v4)] [] 7 := by
  unfold fX5_firstQuarrelOf_7b at h
  refine r_iload C dX5_firstQuarrelOf_7 rfl ?_
  refine r_if_le (tgt := 49) C dX5_firstQuarrelOf_9 (by decide) (fun c2 => ?_) (fun c2 => ?_)
  · have h := h.1 c2
    refine r_sub [] (lv' := []) rfl ?_
    exact hK sd h
  · have h := h.2 c2
    refine r_iload C dX5_firstQuarrelOf_12 rfl ?_
    refine callR_I C (run_S (As := [.int v4]) (rest := []) C hZ.2.2 (tJ6_bitCount_0f7a4 _ g N v4 _ h) gX5_firstQuarrelOf_J6_bitCount_0f7a4 rfl dsJ6_bitCount_0f7a4 rfl rfl ⟨(Nat.le_of_ble_eq_true rfl), (Nat.le_of_ble_eq_true rfl)⟩ rfl (Nat.le_of_ble_eq_true rfl) dX5_firstQuarrelOf_14 ⟨Nat.zero_le _, Nat.zero_le _⟩) (List.nil_sublist _) (fun _ => rfl) (fun r3 _ h => ?_)
    refine r_iload_n C dX5_firstQuarrelOf_17 rfl ?_
    refine r_icmp_ne (tgt := 43) C dX5_firstQuarrelOf_18 (by decide) (fun c4 => ?_) (fun c4 => ?_)
    · have h := h.1 c4
      obtain ⟨x5, ex5⟩ : ∃ z : Int32, z = v4 + (-1) := ⟨_, rfl⟩
      have h := h x5 ex5
      refine r_iinc (v := x5) (lv' := [(0, .ref ((a 0) 50)), (1, .int v1), (2, .int v2), (3, .int v3), (4, .int x5)]) C dX5_firstQuarrelOf_43 rfl (by rw [ex5]; rfl) [some 0, some 1, some 2, some 3, none] (by decide) rfl rfl ?_
      refine r_goto (tgt := 7) C dX5_firstQuarrelOf_46 (by decide) ?_
      exact hR x5 sd h
    · have h := h.2 c4
      refine r_aload_n C dX5_firstQuarrelOf_21 rfl ?_
      refine r_iload_n C dX5_firstQuarrelOf_22 rfl ?_
      refine r_iload_n C dX5_firstQuarrelOf_23 rfl ?_
      refine r_iload C dX5_firstQuarrelOf_24 rfl ?_
      refine callR_I C (run_V (As := [.int v1, .int v2, .int v4]) (rest := []) (ci := 5) C hZ.2.2 (tX5_picked _ g a sb lw st sp sd ss sy si lp pf N v1 v2 v4 _ h) gX5_firstQuarrelOf_X5_picked rfl dsX5_picked rfl rfl ⟨(Nat.le_of_ble_eq_true rfl), (Nat.le_of_ble_eq_true rfl)⟩ rfl (List.mem_of_getElem? (i := 0) rfl) rfl (Nat.le_of_ble_eq_true rfl) dX5_firstQuarrelOf_26 ⟨Nat.zero_le _, Nat.zero_le _⟩) (List.Sublist.refl _) (fun _ => rfl) (fun r6 _ h => ?_)
      refine r_istore (lv' := [(0, .ref ((a 0) 50)), (1, .int v1), (2, .int v2), (3, .int v3), (4, .int v4), (5, .int r6)]) C dX5_firstQuarrelOf_29 [some 0, some 1, some 2, some 3, some 4, none] (by decide) rfl rfl ?_
      refine r_aload_n C dX5_firstQuarrelOf_31 rfl ?_
      refine r_iload C dX5_firstQuarrelOf_32 rfl ?_
      refine callW_I C (run_V (As := [.int r6]) (rest := []) (ci := 5) C hZ.2.2 (tX5_isObeyable _ g a sb lw st sp sd ss sy si lp pf N r6 _ h) gX5_firstQuarrelOf_X5_isObeyable rfl dsX5_isObeyable rfl rfl ⟨(Nat.le_of_ble_eq_true rfl), (Nat.le_of_ble_eq_true rfl)⟩ rfl (List.mem_of_getElem? (i := 0) rfl) rfl (Nat.le_of_ble_eq_true rfl) dX5_firstQuarrelOf_34 ⟨Nat.zero_le _, Nat.zero_le _⟩) (fun r7 sd8 h => ?_)
      show St x 0 0 (sysW g a sb lw st sp sd8 ss sy si lp pf) _ _ 37
      refine r_if_ne (tgt := 43) C dX5_firstQuarrelOf_37 (by decide) (fun c9 => ?_) (fun c9 => ?_)
      · have h := h.1 c9
        obtain ⟨x10, ex10⟩ : ∃ z : Int32, z = v4 + (-1) := ⟨_, rfl⟩
        have h := h x10 ex10
        refine r_iinc (v := x10) (lv' := [(0, .ref ((a 0) 50)), (1, .int v1), (2, .int v2), (3, .int v3), (4, .int x10)]) C dX5_firstQuarrelOf_43 rfl (by rw [ex10]; rfl) [some 0, some 1, some 2, some 3, none] (by decide) rfl rfl ?_
        refine r_goto (tgt := 7) C dX5_firstQuarrelOf_46 (by decide) ?_
        exact hR x10 sd8 h
      · have h := h.2 c9
        refine r_iload C dX5_firstQuarrelOf_40 rfl ?_
        exact r_iret C hZ (u := sd8) h rfl dX5_firstQuarrelOf_42
def fX5_firstQuarrelOf_7 (N : Nat) (sb : RS) (lw : Nat → Option Nat) (lp : List Nat) (pf : Nat → RS) (v1 : Int32) (v2 : Int32) (v3 : Int32) (K : RS → Prop) (Q : Int32 → RS → Prop) : Nat → Int32 → RS → Prop
  | 0, _, _ => False
  | n + 1, v4, sd => fX5_firstQuarrelOf_7b N sb lw sd lp pf v1 v2 v3 v4 (fun v4 sd => fX5_firstQuarrelOf_7 N sb lw lp pf v1 v2 v3 K Q n v4 sd) K Q
set_option maxRecDepth 100000 in
set_option maxHeartbeats 4000000 in
theorem wfX5_firstQuarrelOf_7 {x : Nx} {g : Gx} {W0 : va_W} {a : Nat → Nat → Nat} {sb : RS} {lw : Nat → Option Nat} {st : RS} {sp : RS} {ss : RS} {sy : RS} {si : Nat → Option Nat} {lp : List Nat} {pf : Nat → RS} {N : Nat} {v1 : Int32} {v2 : Int32} {v3 : Int32} {K : RS → Prop} {Q : Int32 → RS → Prop} (C : Cx x g cX5_firstQuarrelOf RX5 wsX5_firstQuarrelOf rmX5_firstQuarrelOf yX5_firstQuarrelOf (some .int) 6) (hZ : Zq x g W0 (fun u : RS => sysW g a sb lw st sp u ss sy si lp pf) (qI (fun (r : Int32) (u : RS) => Q r u)) 0 0) (hK : ∀ (sd_ : RS), K sd_ → St x 0 0 (sysW g a sb lw st sp sd_ ss sy si lp pf) [] [] 49) : ∀ (n : Nat) (v4 : Int32) (sd : RS), fX5_firstQuarrelOf_7 N sb lw lp pf v1 v2 v3 K Q n v4 sd → St x 0 0 (sysW g a sb lw st sp sd ss sy si lp pf) [(0, .ref ((a 0) 50)), (1, .int v1), (2, .int v2), (3, .int v3), (4, .int v4)] [] 7 := by
  intro n
  induction n with
  | zero => intro v4 sd h; exact False.elim h
  | succ n ih => intro v4 sd h; exact wfX5_firstQuarrelOf_7b C hZ ih hK h
def fX5_firstQuarrelOf (N : Nat) (sb : RS) (lw : Nat → Option Nat) (sd : RS) (lp : List Nat) (pf : Nat → RS) (v1 : Int32) (v2 : Int32) (v3 : Int32) (Q : Int32 → RS → Prop) : Prop :=
  (∀ x1 : Int32, x1 = ((1 : Int32) <<< (v2 &&& 31)) - (1 : Int32) → (fX5_firstQuarrelOf_7 N sb lw lp pf v1 v2 v3 (fun sd11 => Q 0 sd11) Q N x1 sd))
set_option maxRecDepth 100000 in
set_option maxHeartbeats 4000000 in
theorem tX5_firstQuarrelOf (l : Launch) (g : Gx) (a : Nat → Nat → Nat) (sb : RS) (lw : Nat → Option Nat) (st : RS) (sp : RS) (sd : RS) (ss : RS) (sy : RS) (si : Nat → Option Nat) (lp : List Nat) (pf : Nat → RS) (N : Nat) (v1 : Int32) (v2 : Int32) (v3 : Int32) (Q : Int32 → RS → Prop) (h : fX5_firstQuarrelOf N sb lw sd lp pf v1 v2 v3 Q) : MetG l g yX5_firstQuarrelOf wsX5_firstQuarrelOf rmX5_firstQuarrelOf [.ref ((a 0) 50), .int v1, .int v2, .int v3] (sysW g a sb lw st sp sd ss sy si lp pf) (fun u : RS => sysW g a sb lw st sp u ss sy si lp pf) (qI (fun (r : Int32) (u : RS) => Q r u)) 0 0 := by
  refine met_of (cc := cX5_firstQuarrelOf) (own := RX5) (nL := 6) (ret := (some .int)) (lv := [(0, .ref ((a 0) 50)), (1, .int v1), (2, .int v2), (3, .int v3)]) (by decide) rfl rfl (Nat.le_of_ble_eq_true rfl) rfl ?_
  intro x C hl hZ
  subst hl
  unfold fX5_firstQuarrelOf at h
  refine r_iconst (v := 1) C dX5_firstQuarrelOf_0 (by decide) ?_
  refine r_iload_n C dX5_firstQuarrelOf_1 rfl ?_
  refine r_ishl C dX5_firstQuarrelOf_2 ?_
  refine r_iconst (v := 1) C dX5_firstQuarrelOf_3 (by decide) ?_
  refine r_isub C dX5_firstQuarrelOf_4 ?_
  refine r_topi (fun x1 ex1 => ?_)
  have h := h x1 ex1
  refine r_istore (lv' := [(0, .ref ((a 0) 50)), (1, .int v1), (2, .int v2), (3, .int v3), (4, .int x1)]) C dX5_firstQuarrelOf_5 [some 0, some 1, some 2, some 3, none] (by decide) rfl rfl ?_
  refine wfX5_firstQuarrelOf_7 C hZ (fun sd11 h => ?_) N _ _ h
  refine r_iconst (v := 0) C dX5_firstQuarrelOf_49 (by decide) ?_
  exact r_iret C hZ (u := sd11) h rfl dX5_firstQuarrelOf_50
def rmX5_quarrel : Room := { frames := 6, cells := 0, slots := 0, locals := 154 }
def fX5_quarrel_29b (N : Nat) (sb : RS) (lw : Nat → Option Nat) (sd : RS) (lp : List Nat) (pf : Nat → RS) (v1 : Int32) (v2 : Int32) (v3 : Int32) (R : Int32 → RS → Prop) (K : RS → Prop) (Q : Int32 → RS → Prop) : Prop :=
  ((v2 ≤ v3 → K sd) ∧ (¬ v2 ≤ v3 → (fX5_firstQuarrelOf N sb lw sd lp pf v1 v2 v3 (fun r8 sd9 => ((r8 = 0 → (∀ x11 : Int32, x11 = v3 + 1 → R x11 sd9)) ∧ (¬ r8 = 0 → Q r8 sd9))))))
set_option maxRecDepth 100000 in
set_option maxHeartbeats 4000000 in
theorem wfX5_quarrel_29b {x : Nx} {g : Gx} {W0 : va_W} {a : Nat → Nat → Nat} {sb : RS} {lw : Nat → Option Nat} {st : RS} {sp : RS} {sd : RS} {ss : RS} {sy : RS} {si : Nat → Option Nat} {lp : List Nat} {pf : Nat → RS} {N : Nat} {v1 : Int32} {v2 : Int32} {v3 : Int32} {R : Int32 → RS → Prop} {K : RS → Prop} {Q : Int32 → RS → Prop} (C : Cx x g cX5_quarrel RX5 wsX5_quarrel rmX5_quarrel yX5_quarrel (some .int) 5) (hZ : Zq x g W0 (fun u : RS => sysW g a sb lw st sp u ss sy si lp pf) (qI (fun (r : Int32) (u : RS) => Q r u)) 0 0) (hR : ∀ (w3 : Int32) (sd_ : RS), R w3 sd_ → St x 0 0 (sysW g a sb lw st sp sd_ ss sy si lp pf) [(0, .ref ((a 0) 50)), (1, .int v1), (2, .int v2), (3, .int w3)] [] 29) (hK : ∀ (sd_ : RS), K sd_ → St x 0 0 (sysW g a sb lw st sp sd_ ss sy si lp pf) [(1, .int v1)] [] 57) (h : fX5_quarrel_29b N sb lw sd lp pf v1 v2 v3 R K Q) : St x 0 0 (sysW g a sb lw st sp sd ss sy si lp pf) [(0, .ref ((a 0) 50)), (1, .int v1), (2, .int v2), (3, .int v3)] [] 29 := by
  unfold fX5_quarrel_29b at h
  refine r_iload_n C dX5_quarrel_29 rfl ?_
  refine r_iload_n C dX5_quarrel_30 rfl ?_
  refine r_icmp_ge (tgt := 57) C dX5_quarrel_31 (by decide) (fun c7 => ?_) (fun c7 => ?_)
  · have h := h.1 c7
    refine r_sub [1] (lv' := [(1, .int v1)]) rfl ?_
    exact hK sd h
  · have h := h.2 c7
    refine r_aload_n C dX5_quarrel_34 rfl ?_
    refine r_iload_n C dX5_quarrel_35 rfl ?_
    refine r_iload_n C dX5_quarrel_36 rfl ?_
    refine r_iload_n C dX5_quarrel_37 rfl ?_
    refine callW_I C (run_V (As := [.int v1, .int v2, .int v3]) (rest := []) (ci := 5) C hZ.2.2 (tX5_firstQuarrelOf _ g a sb lw st sp sd ss sy si lp pf N v1 v2 v3 _ h) gX5_quarrel_X5_firstQuarrelOf rfl dsX5_firstQuarrelOf rfl rfl ⟨(Nat.le_of_ble_eq_true rfl), (Nat.le_of_ble_eq_true rfl)⟩ rfl (List.mem_of_getElem? (i := 0) rfl) rfl (Nat.le_of_ble_eq_true rfl) dX5_quarrel_38 ⟨Nat.zero_le _, Nat.zero_le _⟩) (fun r8 sd9 h => ?_)
    show St x 0 0 (sysW g a sb lw st sp sd9 ss sy si lp pf) _ _ 41
    refine r_istore (lv' := [(0, .ref ((a 0) 50)), (1, .int v1), (2, .int v2), (3, .int v3), (4, .int r8)]) C dX5_quarrel_41 [some 0, some 1, some 2, some 3, none] (by decide) rfl rfl ?_
    refine r_iload C dX5_quarrel_43 rfl ?_
    refine r_if_eq (tgt := 51) C dX5_quarrel_45 (by decide) (fun c10 => ?_) (fun c10 => ?_)
    · have h := h.1 c10
      obtain ⟨x11, ex11⟩ : ∃ z : Int32, z = v3 + 1 := ⟨_, rfl⟩
      have h := h x11 ex11
      refine r_iinc (v := x11) (lv' := [(0, .ref ((a 0) 50)), (1, .int v1), (2, .int v2), (3, .int x11)]) C dX5_quarrel_51 rfl (by rw [ex11]; rfl) [some 0, some 1, some 2, none] (by decide) rfl rfl ?_
      refine r_goto (tgt := 29) C dX5_quarrel_54 (by decide) ?_
      exact hR x11 sd9 h
    · have h := h.2 c10
      refine r_iload C dX5_quarrel_48 rfl ?_
      exact r_iret C hZ (u := sd9) h rfl dX5_quarrel_50
def fX5_quarrel_29 (N : Nat) (sb : RS) (lw : Nat → Option Nat) (lp : List Nat) (pf : Nat → RS) (v1 : Int32) (v2 : Int32) (K : RS → Prop) (Q : Int32 → RS → Prop) : Nat → Int32 → RS → Prop
  | 0, _, _ => False
  | n + 1, v3, sd => fX5_quarrel_29b N sb lw sd lp pf v1 v2 v3 (fun v3 sd => fX5_quarrel_29 N sb lw lp pf v1 v2 K Q n v3 sd) K Q
set_option maxRecDepth 100000 in
set_option maxHeartbeats 4000000 in
theorem wfX5_quarrel_29 {x : Nx} {g : Gx} {W0 : va_W} {a : Nat → Nat → Nat} {sb : RS} {lw : Nat → Option Nat} {st : RS} {sp : RS} {ss : RS} {sy : RS} {si : Nat → Option Nat} {lp : List Nat} {pf : Nat → RS} {N : Nat} {v1 : Int32} {v2 : Int32} {K : RS → Prop} {Q : Int32 → RS → Prop} (C : Cx x g cX5_quarrel RX5 wsX5_quarrel rmX5_quarrel yX5_quarrel (some .int) 5) (hZ : Zq x g W0 (fun u : RS => sysW g a sb lw st sp u ss sy si lp pf) (qI (fun (r : Int32) (u : RS) => Q r u)) 0 0) (hK : ∀ (sd_ : RS), K sd_ → St x 0 0 (sysW g a sb lw st sp sd_ ss sy si lp pf) [(1, .int v1)] [] 57) : ∀ (n : Nat) (v3 : Int32) (sd : RS), fX5_quarrel_29 N sb lw lp pf v1 v2 K Q n v3 sd → St x 0 0 (sysW g a sb lw st sp sd ss sy si lp pf) [(0, .ref ((a 0) 50)), (1, .int v1), (2, .int v2), (3, .int v3)] [] 29 := by
  intro n
  induction n with
  | zero => intro v3 sd h; exact False.elim h
  | succ n ih => intro v3 sd h; exact wfX5_quarrel_29b C hZ ih hK h
def fX5_quarrel (N : Nat) (sb : RS) (lw : Nat → Option Nat) (sd : RS) (lp : List Nat) (pf : Nat → RS) (v1 : Int32) (Q : Int32 → RS → Prop) : Prop :=
  (fX5_isSet N sb v1 5 (fun r1 => ((¬ r1 = 0 → (fX5_isObeyable N sb lw sd lp pf v1 (fun r3 sd4 => ((r3 = 0 → (fJ6_bitCount_0f7a4 N v1 (fun r6 => (fX5_quarrel_29 N sb lw lp pf v1 r6 (fun sd12 => Q v1 sd12) Q N 1 sd4)))) ∧ (¬ r3 = 0 → Q (-4) sd4))))) ∧ (r1 = 0 → Q (-1) sd))))
set_option maxRecDepth 100000 in
set_option maxHeartbeats 4000000 in
theorem tX5_quarrel (l : Launch) (g : Gx) (a : Nat → Nat → Nat) (sb : RS) (lw : Nat → Option Nat) (st : RS) (sp : RS) (sd : RS) (ss : RS) (sy : RS) (si : Nat → Option Nat) (lp : List Nat) (pf : Nat → RS) (N : Nat) (v1 : Int32) (Q : Int32 → RS → Prop) (h : fX5_quarrel N sb lw sd lp pf v1 Q) : MetG l g yX5_quarrel wsX5_quarrel rmX5_quarrel [.ref ((a 0) 50), .int v1] (sysW g a sb lw st sp sd ss sy si lp pf) (fun u : RS => sysW g a sb lw st sp u ss sy si lp pf) (qI (fun (r : Int32) (u : RS) => Q r u)) 0 0 := by
  refine met_of (cc := cX5_quarrel) (own := RX5) (nL := 5) (ret := (some .int)) (lv := [(0, .ref ((a 0) 50)), (1, .int v1)]) (by decide) rfl rfl (Nat.le_of_ble_eq_true rfl) rfl ?_
  intro x C hl hZ
  subst hl
  unfold fX5_quarrel at h
  refine r_aload_n C dX5_quarrel_0 rfl ?_
  refine r_iload_n C dX5_quarrel_1 rfl ?_
  refine r_iconst (v := 5) C dX5_quarrel_2 (by decide) ?_
  refine callR_I C (run_V (As := [.int v1, .int 5]) (rest := []) (ci := 5) C hZ.2.2 (tX5_isSet _ g a sb lw st sp sd ss sy si lp pf N v1 5 _ h) gX5_quarrel_X5_isSet rfl dsX5_isSet rfl rfl ⟨(Nat.le_of_ble_eq_true rfl), (Nat.le_of_ble_eq_true rfl)⟩ rfl (List.mem_of_getElem? (i := 0) rfl) rfl (Nat.le_of_ble_eq_true rfl) dX5_quarrel_3 ⟨Nat.zero_le _, Nat.zero_le _⟩) (List.Sublist.refl _) (fun _ => rfl) (fun r1 _ h => ?_)
  refine r_if_ne (tgt := 11) C dX5_quarrel_6 (by decide) (fun c2 => ?_) (fun c2 => ?_)
  · have h := h.1 c2
    refine r_aload_n C dX5_quarrel_11 rfl ?_
    refine r_iload_n C dX5_quarrel_12 rfl ?_
    refine callW_I C (run_V (As := [.int v1]) (rest := []) (ci := 5) C hZ.2.2 (tX5_isObeyable _ g a sb lw st sp sd ss sy si lp pf N v1 _ h) gX5_quarrel_X5_isObeyable rfl dsX5_isObeyable rfl rfl ⟨(Nat.le_of_ble_eq_true rfl), (Nat.le_of_ble_eq_true rfl)⟩ rfl (List.mem_of_getElem? (i := 0) rfl) rfl (Nat.le_of_ble_eq_true rfl) dX5_quarrel_13 ⟨Nat.zero_le _, Nat.zero_le _⟩) (fun r3 sd4 h => ?_)
    show St x 0 0 (sysW g a sb lw st sp sd4 ss sy si lp pf) _ _ 16
    refine r_if_eq (tgt := 22) C dX5_quarrel_16 (by decide) (fun c5 => ?_) (fun c5 => ?_)
    · have h := h.1 c5
      refine r_iload_n C dX5_quarrel_22 rfl ?_
      refine callR_I C (run_S (As := [.int v1]) (rest := []) C hZ.2.2 (tJ6_bitCount_0f7a4 _ g N v1 _ h) gX5_quarrel_J6_bitCount_0f7a4 rfl dsJ6_bitCount_0f7a4 rfl rfl ⟨(Nat.le_of_ble_eq_true rfl), (Nat.le_of_ble_eq_true rfl)⟩ rfl (Nat.le_of_ble_eq_true rfl) dX5_quarrel_23 ⟨Nat.zero_le _, Nat.zero_le _⟩) (List.nil_sublist _) (fun _ => rfl) (fun r6 _ h => ?_)
      refine r_istore_n (lv' := [(0, .ref ((a 0) 50)), (1, .int v1), (2, .int r6)]) C dX5_quarrel_26 [some 0, some 1, none] (by decide) rfl rfl ?_
      refine r_iconst (v := 1) C dX5_quarrel_27 (by decide) ?_
      refine r_istore_n (lv' := [(0, .ref ((a 0) 50)), (1, .int v1), (2, .int r6), (3, .int 1)]) C dX5_quarrel_28 [some 0, some 1, some 2, none] (by decide) rfl rfl ?_
      refine wfX5_quarrel_29 C hZ (fun sd12 h => ?_) N _ _ h
      refine r_iload_n C dX5_quarrel_57 rfl ?_
      exact r_iret C hZ (u := sd12) h rfl dX5_quarrel_58
    · have h := h.2 c5
      refine r_bipush (v := (-4)) C dX5_quarrel_19 (by decide) ?_
      exact r_iret C hZ (u := sd4) h rfl dX5_quarrel_21
  · have h := h.2 c2
    refine r_iconst (v := (-1)) C dX5_quarrel_9 (by decide) ?_
    exact r_iret C hZ (u := sd) h rfl dX5_quarrel_10
def rmX5_follows : Room := { frames := 4, cells := 0, slots := 0, locals := 101 }
theorem kwX5_follows_0 : Cond.fieldLink RX5 36 "WantsBench" "desk" "LWantsBench$Game;" ∈ wsX5_follows := by decide +kernel
theorem uwX5_follows_5 : ∀ w ∈ wsX50, w ∈ wsX5_follows := by decide +kernel
theorem kwX5_follows_2 : Cond.fieldLink RX5 85 "WantsBench$Law" "n" "I" ∈ wsX5_follows := by decide +kernel
theorem uwX5_follows_1 : ∀ w ∈ wsX10, w ∈ wsX5_follows := by decide +kernel
def fX5_follows_67 (N : Nat) (sb : RS) (lw : Nat → Option Nat) (sd : RS) (lp : List Nat) (pf : Nat → RS) (k0 : Int32) (Q : Int32 → RS → Prop) : Prop :=
  (fX5_bit N k0 (fun r14 => Q r14 sd))
set_option maxRecDepth 100000 in
set_option maxHeartbeats 4000000 in
theorem wfX5_follows_67 {x : Nx} {g : Gx} {W0 : va_W} {a : Nat → Nat → Nat} {sb : RS} {lw : Nat → Option Nat} {st : RS} {sp : RS} {sd : RS} {ss : RS} {sy : RS} {si : Nat → Option Nat} {lp : List Nat} {pf : Nat → RS} {N : Nat} {k0 : Int32} {Q : Int32 → RS → Prop} (C : Cx x g cX5_follows RX5 wsX5_follows rmX5_follows yX5_follows (some .int) 4) (hZ : Zq x g W0 (fun u : RS => sysW g a sb lw st sp u ss sy si lp pf) (qI (fun (r : Int32) (u : RS) => Q r u)) 0 0) (h : fX5_follows_67 N sb lw sd lp pf k0 Q) : St x 0 0 (sysW g a sb lw st sp sd ss sy si lp pf) [] [.int k0] 67 := by
  unfold fX5_follows_67 at h
  refine callR_I C (run_S (As := [.int k0]) (rest := []) C hZ.2.2 (tX5_bit _ g N k0 _ h) gX5_follows_X5_bit rfl dsX5_bit rfl rfl ⟨(Nat.le_of_ble_eq_true rfl), (Nat.le_of_ble_eq_true rfl)⟩ rfl (Nat.le_of_ble_eq_true rfl) dX5_follows_67 ⟨Nat.zero_le _, Nat.zero_le _⟩) (List.nil_sublist _) (fun _ => rfl) (fun r14 _ h => ?_)
  exact r_iret C hZ (u := sd) h rfl dX5_follows_70
def fX5_follows (N : Nat) (sb : RS) (lw : Nat → Option Nat) (sd : RS) (lp : List Nat) (pf : Nat → RS) (v1 : Int32) (v2 : Int32) (Q : Int32 → RS → Prop) : Prop :=
  (fX5_lawOf N sb lw v1 (fun r1 => ((r1 = none → Q (-1) sd) ∧ (∀ q2 : Nat, r1 = some q2 → (fX5_isSet N sb v2 4 (fun r3 => ((r3 = 0 → Q (-1) sd) ∧ (¬ r3 = 0 → (fX5_isIn N v2 v1 (fun r5 => ((r5 = 0 → (fX5_lay3 N sb lw sd lp pf v2 0 (fun  sd7 => (q2 ∈ lp ∧ (q2 ∈ lp ∧ (fX0_enter N sd7 (pf q2) ((pf q2).1 1) 0 (fun  sd10 => (fX0_lastMayBreakAlone N sd10 (fun r11 sd12 => ((¬ r11 = 0 → (fX5_follows_67 N sb lw sd12 lp pf 0 Q)) ∧ (r11 = 0 → (fX5_follows_67 N sb lw sd12 lp pf 1 Q)))))))))))) ∧ (¬ r5 = 0 → Q (-1) sd))))))))))))
set_option maxRecDepth 100000 in
set_option maxHeartbeats 4000000 in
theorem tX5_follows (l : Launch) (g : Gx) (a : Nat → Nat → Nat) (sb : RS) (lw : Nat → Option Nat) (st : RS) (sp : RS) (sd : RS) (ss : RS) (sy : RS) (si : Nat → Option Nat) (lp : List Nat) (pf : Nat → RS) (N : Nat) (v1 : Int32) (v2 : Int32) (Q : Int32 → RS → Prop) (h : fX5_follows N sb lw sd lp pf v1 v2 Q) : MetG l g yX5_follows wsX5_follows rmX5_follows [.ref ((a 0) 50), .int v1, .int v2] (sysW g a sb lw st sp sd ss sy si lp pf) (fun u : RS => sysW g a sb lw st sp u ss sy si lp pf) (qI (fun (r : Int32) (u : RS) => Q r u)) 0 0 := by
  refine met_of (cc := cX5_follows) (own := RX5) (nL := 4) (ret := (some .int)) (lv := [(0, .ref ((a 0) 50)), (1, .int v1), (2, .int v2)]) (by decide) rfl rfl (Nat.le_of_ble_eq_true rfl) rfl ?_
  intro x C hl hZ
  subst hl
  unfold fX5_follows at h
  refine r_aload_n C dX5_follows_0 rfl ?_
  refine r_iload_n C dX5_follows_1 rfl ?_
  refine callR_A C (run_V (As := [.int v1]) (rest := []) (ci := 5) C hZ.2.2 (tX5_lawOf _ g a sb lw st sp sd ss sy si lp pf N v1 _ h) gX5_follows_X5_lawOf rfl dsX5_lawOf rfl rfl ⟨(Nat.le_of_ble_eq_true rfl), (Nat.le_of_ble_eq_true rfl)⟩ rfl (List.mem_of_getElem? (i := 0) rfl) rfl (Nat.le_of_ble_eq_true rfl) dX5_follows_2 ⟨Nat.zero_le _, Nat.zero_le _⟩) (List.Sublist.refl _) (fun _ => rfl) (fun r1 _ h => ?_)
  cases r1 with
  | none =>
    have h := h.1 rfl
    show St x _ _ _ _ [.null] _
    refine r_astore_nN (lv' := [(0, .ref ((a 0) 50)), (1, .int v1), (2, .int v2), (3, .null)]) C dX5_follows_5 [some 0, some 1, some 2, none] (by decide) rfl rfl ?_
    refine r_aload_nN C dX5_follows_6 rfl ?_
    refine r_ifnullN (tgt := 27) C dX5_follows_7 (by decide) ?_
    refine r_iconst (v := (-1)) C dX5_follows_27 (by decide) ?_
    exact r_iret C hZ (u := sd) h rfl dX5_follows_28
  | some q2 =>
    have h := h.2 q2 rfl
    show St x _ _ _ _ [.ref q2] _
    refine r_astore_n (lv' := [(0, .ref ((a 0) 50)), (1, .int v1), (2, .int v2), (3, .ref q2)]) C dX5_follows_5 [some 0, some 1, some 2, none] (by decide) rfl rfl ?_
    refine r_aload_n C dX5_follows_6 rfl ?_
    refine r_ifnull C dX5_follows_7 ?_
    refine r_aload_n C dX5_follows_10 rfl ?_
    refine r_iload_n C dX5_follows_11 rfl ?_
    refine r_iconst (v := 4) C dX5_follows_12 (by decide) ?_
    refine callR_I C (run_V (As := [.int v2, .int 4]) (rest := []) (ci := 5) C hZ.2.2 (tX5_isSet _ g a sb lw st sp sd ss sy si lp pf N v2 4 _ h) gX5_follows_X5_isSet rfl dsX5_isSet rfl rfl ⟨(Nat.le_of_ble_eq_true rfl), (Nat.le_of_ble_eq_true rfl)⟩ rfl (List.mem_of_getElem? (i := 0) rfl) rfl (Nat.le_of_ble_eq_true rfl) dX5_follows_13 ⟨Nat.zero_le _, Nat.zero_le _⟩) (List.Sublist.refl _) (fun _ => rfl) (fun r3 _ h => ?_)
    refine r_if_eq (tgt := 27) C dX5_follows_16 (by decide) (fun c4 => ?_) (fun c4 => ?_)
    · have h := h.1 c4
      refine r_iconst (v := (-1)) C dX5_follows_27 (by decide) ?_
      exact r_iret C hZ (u := sd) h rfl dX5_follows_28
    · have h := h.2 c4
      refine r_iload_n C dX5_follows_19 rfl ?_
      refine r_iload_n C dX5_follows_20 rfl ?_
      refine callR_I C (run_S (As := [.int v2, .int v1]) (rest := []) C hZ.2.2 (tX5_isIn _ g N v2 v1 _ h) gX5_follows_X5_isIn rfl dsX5_isIn rfl rfl ⟨(Nat.le_of_ble_eq_true rfl), (Nat.le_of_ble_eq_true rfl)⟩ rfl (Nat.le_of_ble_eq_true rfl) dX5_follows_21 ⟨Nat.zero_le _, Nat.zero_le _⟩) (List.nil_sublist _) (fun _ => rfl) (fun r5 _ h => ?_)
      refine r_if_eq (tgt := 29) C dX5_follows_24 (by decide) (fun c6 => ?_) (fun c6 => ?_)
      · have h := h.1 c6
        refine r_aload_n C dX5_follows_29 rfl ?_
        refine r_aload_n C dX5_follows_30 rfl ?_
        refine r_get (cn := RX5) (T := TX5) (N := 13) (ci := 5) C uwX5_follows_5 0 rfl rfl 7 (by decide) kwX5_follows_0 (v := .ref ((a 3) 50)) rfl dX5_follows_31 ?_
        refine r_iload_n C dX5_follows_34 rfl ?_
        refine r_iconst (v := 0) C dX5_follows_35 (by decide) ?_
        refine callW_V C (run_V (As := [.ref ((a 3) 50), .int v2, .int 0]) (rest := []) (ci := 5) C hZ.2.2 (tX5_lay3 _ g a sb lw st sp sd ss sy si lp pf N v2 0 _ h) gX5_follows_X5_lay rfl dsX5_lay rfl rfl ⟨(Nat.le_of_ble_eq_true rfl), (Nat.le_of_ble_eq_true rfl)⟩ rfl (List.mem_of_getElem? (i := 0) rfl) rfl (Nat.le_of_ble_eq_true rfl) dX5_follows_36 ⟨Nat.zero_le _, Nat.zero_le _⟩) (fun sd7 h => ?_)
        show St x 0 0 (sysW g a sb lw st sp sd7 ss sy si lp pf) _ _ 39
        refine r_aload_n C dX5_follows_39 rfl ?_
        refine r_get (cn := RX5) (T := TX5) (N := 13) (ci := 5) C uwX5_follows_5 0 rfl rfl 7 (by decide) kwX5_follows_0 (v := .ref ((a 3) 50)) rfl dX5_follows_40 ?_
        refine r_aload_n C dX5_follows_43 rfl ?_
        refine r_aload_n C dX5_follows_44 rfl ?_
        obtain ⟨hq8, h⟩ := h
        refine r_getP (X := sysX g a sb lw st sp sd7 ss sy si) (lp := lp) (pf := pf) C uwX5_follows_1 hq8 1 (by decide) kwX5_follows_2 (v := .int ((pf q2).1 1)) ⟨rfl, rfl⟩ dX5_follows_45 ?_
        refine r_iconst (v := 0) C dX5_follows_48 (by decide) ?_
        obtain ⟨hq9, h⟩ := h
        refine callP_V (ws' := fun z => sysW g a sb lw st sp z ss sy si lp pf) C (run_V (As := [.ref q2, .int ((pf q2).1 1), .int 0]) (rest := []) (ci := 0) C hZ.2.2 (tX0_enter _ g (a 3) q2 sd7 (pf q2) N ((pf q2).1 1) 0 _ h) gX5_follows_X0_enter rfl dsX0_enter rfl rfl ⟨(Nat.le_of_ble_eq_true rfl), (Nat.le_of_ble_eq_true rfl)⟩ rfl (List.mem_of_getElem? (i := 7) rfl) rfl (Nat.le_of_ble_eq_true rfl) dX5_follows_49 ⟨Nat.zero_le _, Nat.zero_le _⟩) (sp3q hq9) (fun _ => (sp3q hq9)) (fun sd10 h => ?_)
        show St x 0 0 (sysW g a sb lw st sp sd10 ss sy si lp pf) _ _ 52
        refine r_aload_n C dX5_follows_52 rfl ?_
        refine r_get (cn := RX5) (T := TX5) (N := 13) (ci := 5) C uwX5_follows_5 0 rfl rfl 7 (by decide) kwX5_follows_0 (v := .ref ((a 3) 50)) rfl dX5_follows_53 ?_
        refine callP_I (ws' := fun z => sysW g a sb lw st sp z ss sy si lp pf) C (run_V (As := []) (rest := []) (ci := 0) C hZ.2.2 (tX0_lastMayBreakAlone _ g (a 3) sd10 N _ h) gX5_follows_X0_lastMayBreakAlone rfl dsX0_lastMayBreakAlone rfl rfl ⟨(Nat.le_of_ble_eq_true rfl), (Nat.le_of_ble_eq_true rfl)⟩ rfl (List.mem_of_getElem? (i := 7) rfl) rfl (Nat.le_of_ble_eq_true rfl) dX5_follows_56 ⟨Nat.zero_le _, Nat.zero_le _⟩) sp3 (fun _ => sp3) (fun r11 sd12 h => ?_)
        show St x 0 0 (sysW g a sb lw st sp sd12 ss sy si lp pf) _ _ 59
        refine r_if_ne (tgt := 66) C dX5_follows_59 (by decide) (fun c13 => ?_) (fun c13 => ?_)
        · have h := h.1 c13
          refine r_iconst (v := 0) C dX5_follows_66 (by decide) ?_
          refine r_sub [] (lv' := []) rfl ?_
          exact wfX5_follows_67 C hZ h
        · have h := h.2 c13
          refine r_iconst (v := 1) C dX5_follows_62 (by decide) ?_
          refine r_goto (tgt := 67) C dX5_follows_63 (by decide) ?_
          refine r_sub [] (lv' := []) rfl ?_
          exact wfX5_follows_67 C hZ h
      · have h := h.2 c6
        refine r_iconst (v := (-1)) C dX5_follows_27 (by decide) ?_
        exact r_iret C hZ (u := sd) h rfl dX5_follows_28
def rmX5_peace : Room := { frames := 23, cells := 0, slots := 0, locals := 904 }
theorem kwX5_peace_0 : Cond.fieldLink RX5 46 "WantsBench" "treaty" "LWantsBench$Treaty;" ∈ wsX5_peace := by decide +kernel
theorem uwX5_peace_5 : ∀ w ∈ wsX50, w ∈ wsX5_peace := by decide +kernel
theorem kwX5_peace_2 : Cond.fieldLink RX5 65 "WantsBench" "lawCount" "I" ∈ wsX5_peace := by decide +kernel
theorem kwX5_peace_3 : Cond.fieldLink RX5 18 "WantsBench" "laws" "[LWantsBench$Law;" ∈ wsX5_peace := by decide +kernel
theorem kwX5_peace_4 : Cond.fieldLink RX5 199 "WantsBench" "treatySet" "I" ∈ wsX5_peace := by decide +kernel
theorem kwX5_peace_5 : Cond.fieldLink RX5 36 "WantsBench" "desk" "LWantsBench$Game;" ∈ wsX5_peace := by decide +kernel
theorem kwX5_peace_6 : Cond.initialized RX4 ∈ wsX5_peace := by decide +kernel
theorem kwX5_peace_7 : Cond.instanceMethod yX4_settle ∈ wsX5_peace := by decide +kernel
theorem kwX5_peace_8 : Cond.selects RX4 yX4_settle yX4_settle ∈ wsX5_peace := by decide +kernel
theorem kwX5_peace_9 : Cond.fieldLink RX5 206 "WantsBench$Treaty" "bestPrice" "I" ∈ wsX5_peace := by decide +kernel
theorem uwX5_peace_4 : ∀ w ∈ wsX40, w ∈ wsX5_peace := by decide +kernel
def fX5_peace_20b (N : Nat) (sb : RS) (lw : Nat → Option Nat) (sd : RS) (sy : RS) (si : Nat → Option Nat) (lp : List Nat) (pf : Nat → RS) (v1 : Int32) (v2 : Int32) (R : Int32 → RS → (Nat → Option Nat) → Prop) (K : RS → (Nat → Option Nat) → Prop) (Q : Int32 → RS → RS → RS → (Nat → Option Nat) → Prop) : Prop :=
  (((sb.1 2) ≤ v2 → K sy si) ∧ (¬ (sb.1 2) ≤ v2 → (fX5_isIn N v1 v2 (fun r5 => ((r5 = 0 → (∀ x7 : Int32, x7 = v2 + 1 → R x7 sy si)) ∧ (¬ r5 = 0 → (vp_in v2 20 ∧ (∃ q9 : Nat, lw v2.toNatClampNeg = some q9 ∧ (q9 ∈ lp ∧ (fX4_invite N q9 sy si (fun  sy12 si13 => (∀ x15 : Int32, x15 = v2 + 1 → R x15 sy12 si13))))))))))))
set_option maxRecDepth 100000 in
set_option maxHeartbeats 4000000 in
theorem wfX5_peace_20b {x : Nx} {g : Gx} {W0 : va_W} {a : Nat → Nat → Nat} {sb : RS} {lw : Nat → Option Nat} {st : RS} {sp : RS} {sd : RS} {ss : RS} {sy : RS} {si : Nat → Option Nat} {lp : List Nat} {pf : Nat → RS} {N : Nat} {v1 : Int32} {v2 : Int32} {R : Int32 → RS → (Nat → Option Nat) → Prop} {K : RS → (Nat → Option Nat) → Prop} {Q : Int32 → RS → RS → RS → (Nat → Option Nat) → Prop} (C : Cx x g cX5_peace RX5 wsX5_peace rmX5_peace yX5_peace (some .int) 3) (hZ : Zq x g W0 (fun u : RS × RS × RS × (Nat → Option Nat) => sysW g a u.1 lw st sp u.2.1 ss u.2.2.1 u.2.2.2 lp pf) (qI (fun (r : Int32) (u : RS × RS × RS × (Nat → Option Nat)) => Q r u.1 u.2.1 u.2.2.1 u.2.2.2)) 0 0) (hR : ∀ (w2 : Int32) (sy_ : RS) (si_ : Nat → Option Nat), R w2 sy_ si_ → St x 0 0 (sysW g a sb lw st sp sd ss sy_ si_ lp pf) [(0, .ref ((a 0) 50)), (1, .int v1), (2, .int w2)] [] 20) (hK : ∀ (sy_ : RS) (si_ : Nat → Option Nat), K sy_ si_ → St x 0 0 (sysW g a sb lw st sp sd ss sy_ si_ lp pf) [(0, .ref ((a 0) 50)), (1, .int v1)] [] 55) (h : fX5_peace_20b N sb lw sd sy si lp pf v1 v2 R K Q) : St x 0 0 (sysW g a sb lw st sp sd ss sy si lp pf) [(0, .ref ((a 0) 50)), (1, .int v1), (2, .int v2)] [] 20 := by
  unfold fX5_peace_20b at h
  refine r_iload_n C dX5_peace_20 rfl ?_
  refine r_aload_n C dX5_peace_21 rfl ?_
  refine r_get (cn := RX5) (T := TX5) (N := 13) (ci := 5) C uwX5_peace_5 0 rfl rfl 2 (by decide) kwX5_peace_2 (v := .int (sb.1 2)) rfl dX5_peace_22 ?_
  refine r_icmp_ge (tgt := 55) C dX5_peace_25 (by decide) (fun c4 => ?_) (fun c4 => ?_)
  · have h := h.1 c4
    refine r_sub [0, 1] (lv' := [(0, .ref ((a 0) 50)), (1, .int v1)]) rfl ?_
    exact hK sy si h
  · have h := h.2 c4
    refine r_iload_n C dX5_peace_28 rfl ?_
    refine r_iload_n C dX5_peace_29 rfl ?_
    refine callR_I C (run_S (As := [.int v1, .int v2]) (rest := []) C hZ.2.2 (tX5_isIn _ g N v1 v2 _ h) gX5_peace_X5_isIn rfl dsX5_isIn rfl rfl ⟨(Nat.le_of_ble_eq_true rfl), (Nat.le_of_ble_eq_true rfl)⟩ rfl (Nat.le_of_ble_eq_true rfl) dX5_peace_30 ⟨Nat.zero_le _, Nat.zero_le _⟩) (List.nil_sublist _) (fun _ => rfl) (fun r5 _ h => ?_)
    refine r_if_eq (tgt := 49) C dX5_peace_33 (by decide) (fun c6 => ?_) (fun c6 => ?_)
    · have h := h.1 c6
      obtain ⟨x7, ex7⟩ : ∃ z : Int32, z = v2 + 1 := ⟨_, rfl⟩
      have h := h x7 ex7
      refine r_iinc (v := x7) (lv' := [(0, .ref ((a 0) 50)), (1, .int v1), (2, .int x7)]) C dX5_peace_49 rfl (by rw [ex7]; rfl) [some 0, some 1, none] (by decide) rfl rfl ?_
      refine r_goto (tgt := 20) C dX5_peace_52 (by decide) ?_
      exact hR x7 sy si h
    · have h := h.2 c6
      refine r_aload_n C dX5_peace_36 rfl ?_
      refine r_get (cn := RX5) (T := TX5) (N := 13) (ci := 5) C uwX5_peace_5 0 rfl rfl 11 (by decide) kwX5_peace_0 (v := .ref ((a 5) 50)) rfl dX5_peace_37 ?_
      refine r_aload_n C dX5_peace_40 rfl ?_
      refine r_get (cn := RX5) (T := TX5) (N := 13) (ci := 5) C uwX5_peace_5 0 rfl rfl 1 (by decide) kwX5_peace_3 (v := .ref ((a 0) 1)) rfl dX5_peace_41 ?_
      refine r_iload_n C dX5_peace_44 rfl ?_
      obtain ⟨hi8, h⟩ := h
      obtain ⟨q9, hq10, h⟩ := h
      refine r_aaldS C 1 rfl hi8 hq10 dX5_peace_45 ?_
      obtain ⟨hq11, h⟩ := h
      refine callP_V (ws' := fun z => sysW g a sb lw st sp sd ss z.1 z.2 lp pf) C (run_V (As := [.ref q9]) (rest := []) (ci := 4) C hZ.2.2 (tX4_invite _ g (a 5) q9 sy si (pf q9) N _ h) gX5_peace_X4_invite rfl dsX4_invite rfl rfl ⟨(Nat.le_of_ble_eq_true rfl), (Nat.le_of_ble_eq_true rfl)⟩ rfl (List.mem_of_getElem? (i := 25) rfl) rfl (Nat.le_of_ble_eq_true rfl) dX5_peace_46 ⟨Nat.zero_le _, Nat.zero_le _⟩) (sp5q hq11) (fun _ => (sp5q hq11)) (fun u14 h => ?_)
      obtain ⟨sy12, si13⟩ := u14
      show St x 0 0 (sysW g a sb lw st sp sd ss sy12 si13 lp pf) _ _ 49
      obtain ⟨x15, ex15⟩ : ∃ z : Int32, z = v2 + 1 := ⟨_, rfl⟩
      have h := h x15 ex15
      refine r_iinc (v := x15) (lv' := [(0, .ref ((a 0) 50)), (1, .int v1), (2, .int x15)]) C dX5_peace_49 rfl (by rw [ex15]; rfl) [some 0, some 1, none] (by decide) rfl rfl ?_
      refine r_goto (tgt := 20) C dX5_peace_52 (by decide) ?_
      exact hR x15 sy12 si13 h
def fX5_peace_20 (N : Nat) (sb : RS) (lw : Nat → Option Nat) (sd : RS) (lp : List Nat) (pf : Nat → RS) (v1 : Int32) (K : RS → (Nat → Option Nat) → Prop) (Q : Int32 → RS → RS → RS → (Nat → Option Nat) → Prop) : Nat → Int32 → RS → (Nat → Option Nat) → Prop
  | 0, _, _, _ => False
  | n + 1, v2, sy, si => fX5_peace_20b N sb lw sd sy si lp pf v1 v2 (fun v2 sy si => fX5_peace_20 N sb lw sd lp pf v1 K Q n v2 sy si) K Q
set_option maxRecDepth 100000 in
set_option maxHeartbeats 4000000 in
theorem wfX5_peace_20 {x : Nx} {g : Gx} {W0 : va_W} {a : Nat → Nat → Nat} {sb : RS} {lw : Nat → Option Nat} {st : RS} {sp : RS} {sd : RS} {ss : RS} {lp : List Nat} {pf : Nat → RS} {N : Nat} {v1 : Int32} {K : RS → (Nat → Option Nat) → Prop} {Q : Int32 → RS → RS → RS → (Nat → Option Nat) → Prop} (C : Cx x g cX5_peace RX5 wsX5_peace rmX5_peace yX5_peace (some .int) 3) (hZ : Zq x g W0 (fun u : RS × RS × RS × (Nat → Option Nat) => sysW g a u.1 lw st sp u.2.1 ss u.2.2.1 u.2.2.2 lp pf) (qI (fun (r : Int32) (u : RS × RS × RS × (Nat → Option Nat)) => Q r u.1 u.2.1 u.2.2.1 u.2.2.2)) 0 0) (hK : ∀ (sy_ : RS) (si_ : Nat → Option Nat), K sy_ si_ → St x 0 0 (sysW g a sb lw st sp sd ss sy_ si_ lp pf) [(0, .ref ((a 0) 50)), (1, .int v1)] [] 55) : ∀ (n : Nat) (v2 : Int32) (sy : RS) (si : Nat → Option Nat), fX5_peace_20 N sb lw sd lp pf v1 K Q n v2 sy si → St x 0 0 (sysW g a sb lw st sp sd ss sy si lp pf) [(0, .ref ((a 0) 50)), (1, .int v1), (2, .int v2)] [] 20 := by
  intro n
  induction n with
  | zero => intro v2 sy si h; exact False.elim h
  | succ n ih => intro v2 sy si h; exact wfX5_peace_20b C hZ ih hK h
def fX5_peace (N : Nat) (sb : RS) (lw : Nat → Option Nat) (sd : RS) (sy : RS) (si : Nat → Option Nat) (lp : List Nat) (pf : Nat → RS) (v1 : Int32) (Q : Int32 → RS → RS → RS → (Nat → Option Nat) → Prop) : Prop :=
  (fX5_isSet N sb v1 4 (fun r1 => ((¬ r1 = 0 → (fX4_begin N sy (fun  sy3 => (fX5_peace_20 N sb lw sd lp pf v1 (fun sy16 si17 => (∀ sb18 : RS, sb18 = sI sb 12 v1 → (fX4_settle N sy16 si17 sd lp pf 0 0 (fun  sy19 sd20 => Q (sy19.1 4) sb18 sd20 sy19 si17)))) Q N 0 sy3 si)))) ∧ (r1 = 0 → Q (-1) sb sd sy si))))
set_option maxRecDepth 100000 in
set_option maxHeartbeats 4000000 in
theorem tX5_peace (l : Launch) (g : Gx) (a : Nat → Nat → Nat) (sb : RS) (lw : Nat → Option Nat) (st : RS) (sp : RS) (sd : RS) (ss : RS) (sy : RS) (si : Nat → Option Nat) (lp : List Nat) (pf : Nat → RS) (N : Nat) (v1 : Int32) (Q : Int32 → RS → RS → RS → (Nat → Option Nat) → Prop) (h : fX5_peace N sb lw sd sy si lp pf v1 Q) : MetG l g yX5_peace wsX5_peace rmX5_peace [.ref ((a 0) 50), .int v1] (sysW g a sb lw st sp sd ss sy si lp pf) (fun u : RS × RS × RS × (Nat → Option Nat) => sysW g a u.1 lw st sp u.2.1 ss u.2.2.1 u.2.2.2 lp pf) (qI (fun (r : Int32) (u : RS × RS × RS × (Nat → Option Nat)) => Q r u.1 u.2.1 u.2.2.1 u.2.2.2)) 0 0 := by
  refine met_of (cc := cX5_peace) (own := RX5) (nL := 3) (ret := (some .int)) (lv := [(0, .ref ((a 0) 50)), (1, .int v1)]) (by decide) rfl rfl (Nat.le_of_ble_eq_true rfl) rfl ?_
  intro x C hl hZ
  subst hl
  unfold fX5_peace at h
  refine r_aload_n C dX5_peace_0 rfl ?_
  refine r_iload_n C dX5_peace_1 rfl ?_
  refine r_iconst (v := 4) C dX5_peace_2 (by decide) ?_
  refine callR_I C (run_V (As := [.int v1, .int 4]) (rest := []) (ci := 5) C hZ.2.2 (tX5_isSet _ g a sb lw st sp sd ss sy si lp pf N v1 4 _ h) gX5_peace_X5_isSet rfl dsX5_isSet rfl rfl ⟨(Nat.le_of_ble_eq_true rfl), (Nat.le_of_ble_eq_true rfl)⟩ rfl (List.mem_of_getElem? (i := 0) rfl) rfl (Nat.le_of_ble_eq_true rfl) dX5_peace_3 ⟨Nat.zero_le _, Nat.zero_le _⟩) (List.Sublist.refl _) (fun _ => rfl) (fun r1 _ h => ?_)
  refine r_if_ne (tgt := 11) C dX5_peace_6 (by decide) (fun c2 => ?_) (fun c2 => ?_)
  · have h := h.1 c2
    refine r_aload_n C dX5_peace_11 rfl ?_
    refine r_get (cn := RX5) (T := TX5) (N := 13) (ci := 5) C uwX5_peace_5 0 rfl rfl 11 (by decide) kwX5_peace_0 (v := .ref ((a 5) 50)) rfl dX5_peace_12 ?_
    refine callP_V (ws' := fun z => sysW g a sb lw st sp sd ss z si lp pf) C (run_V (As := []) (rest := []) (ci := 4) C hZ.2.2 (tX4_begin _ g (a 5) sy si N _ h) gX5_peace_X4_begin rfl dsX4_begin rfl rfl ⟨(Nat.le_of_ble_eq_true rfl), (Nat.le_of_ble_eq_true rfl)⟩ rfl (List.mem_of_getElem? (i := 25) rfl) rfl (Nat.le_of_ble_eq_true rfl) dX5_peace_15 ⟨Nat.zero_le _, Nat.zero_le _⟩) sp5 (fun _ => sp5) (fun sy3 h => ?_)
    show St x 0 0 (sysW g a sb lw st sp sd ss sy3 si lp pf) _ _ 18
    refine r_iconst (v := 0) C dX5_peace_18 (by decide) ?_
    refine r_istore_n (lv' := [(0, .ref ((a 0) 50)), (1, .int v1), (2, .int 0)]) C dX5_peace_19 [some 0, some 1, none] (by decide) rfl rfl ?_
    refine wfX5_peace_20 C hZ (fun sy16 si17 h => ?_) N _ _ _ h
    refine r_aload_n C dX5_peace_55 rfl ?_
    refine r_iload_n C dX5_peace_56 rfl ?_
    obtain ⟨sb18, hsb18⟩ : ∃ z : RS, z = sI sb 12 v1 := ⟨_, rfl⟩
    have h := h sb18 hsb18
    refine r_put (cn := RX5) (T := TX5) (N := 13) (ci := 5) (ws' := sysW g a sb18 lw st sp sd ss sy16 si17 lp pf) C uwX5_peace_5 tyX5 tyX5_ok nmX5 0 rfl rfl 12 (by decide) kwX5_peace_4 rfl rfl rfl (Nat.le_of_ble_eq_true rfl) dX5_peace_57 (by rw [hsb18]; rfl) ?_
    refine r_aload_n C dX5_peace_60 rfl ?_
    refine r_get (cn := RX5) (T := TX5) (N := 13) (ci := 5) C uwX5_peace_5 0 rfl rfl 11 (by decide) kwX5_peace_0 (v := .ref ((a 5) 50)) rfl dX5_peace_61 ?_
    refine r_aload_n C dX5_peace_64 rfl ?_
    refine r_get (cn := RX5) (T := TX5) (N := 13) (ci := 5) C uwX5_peace_5 0 rfl rfl 7 (by decide) kwX5_peace_5 (v := .ref ((a 3) 50)) rfl dX5_peace_65 ?_
    refine r_iconst (v := 0) C dX5_peace_68 (by decide) ?_
    refine r_iconst (v := 0) C dX5_peace_69 (by decide) ?_
    refine callP_V (ws' := fun z => sysW g a sb18 lw st sp z.2 ss z.1 si17 lp pf) C (run_VN (As := [.ref ((a 3) 50), .int 0, .int 0]) (rest := []) (ci := 4) C hZ.2.2 (tX4_settle _ g (a 5) (a 3) sy16 si17 sd lp pf N 0 0 _ h) gX5_peace_X4_settle_n202 (host := RX5) (by decide +kernel) kwX5_peace_6 kwX5_peace_7 kwX5_peace_8 rfl dsX4_settle rfl rfl ⟨(Nat.le_of_ble_eq_true rfl), (Nat.le_of_ble_eq_true rfl)⟩ rfl (List.mem_of_getElem? (i := 25) rfl) rfl (Nat.le_of_ble_eq_true rfl) dX5_peace_70 ⟨Nat.zero_le _, Nat.zero_le _⟩) sp6 (fun _ => sp6) (fun u21 h => ?_)
    obtain ⟨sy19, sd20⟩ := u21
    show St x 0 0 (sysW g a sb18 lw st sp sd20 ss sy19 si17 lp pf) _ _ 73
    refine r_aload_n C dX5_peace_73 rfl ?_
    refine r_get (cn := RX5) (T := TX5) (N := 13) (ci := 5) C uwX5_peace_5 0 rfl rfl 11 (by decide) kwX5_peace_0 (v := .ref ((a 5) 50)) rfl dX5_peace_74 ?_
    refine r_get (cn := RX4) (T := TX4) (N := 5) (ci := 4) C uwX5_peace_4 25 rfl rfl 4 (by decide) kwX5_peace_9 (v := .int (sy19.1 4)) rfl dX5_peace_77 ?_
    exact r_iret C hZ (u := (sb18, sd20, sy19, si17)) h rfl dX5_peace_80
  · have h := h.2 c2
    refine r_iconst (v := (-1)) C dX5_peace_9 (by decide) ?_
    exact r_iret C hZ (u := (sb, sd, sy, si)) h rfl dX5_peace_10
def rmX5_made : Room := { frames := 1, cells := 0, slots := 0, locals := 22 }
theorem kwX5_made_0 : Cond.fieldLink RX5 199 "WantsBench" "treatySet" "I" ∈ wsX5_made := by decide +kernel
theorem uwX5_made_5 : ∀ w ∈ wsX50, w ∈ wsX5_made := by decide +kernel
theorem kwX5_made_2 : Cond.fieldLink RX5 46 "WantsBench" "treaty" "LWantsBench$Treaty;" ∈ wsX5_made := by decide +kernel
def fX5_made (N : Nat) (sb : RS) (sy : RS) (v1 : Int32) (Q : Int32 → Prop) : Prop :=
  (fX5_isWithin N v1 0 19 (fun r1 => ((r1 = 0 → Q (-1)) ∧ (¬ r1 = 0 → (fX5_isIn N (sb.1 12) v1 (fun r3 => ((¬ r3 = 0 → (fJ6_bitCount_0f7a4 N ((sb.1 12) &&& (((1 : Int32) <<< (v1 &&& 31)) - (1 : Int32))) (fun r5 => (fX4_termOf N sy r5 (fun r6 => Q r6))))) ∧ (r3 = 0 → Q (-1)))))))))
set_option maxRecDepth 100000 in
set_option maxHeartbeats 4000000 in
theorem tX5_made (l : Launch) (g : Gx) (a : Nat → Nat → Nat) (sb : RS) (lw : Nat → Option Nat) (st : RS) (sp : RS) (sd : RS) (ss : RS) (sy : RS) (si : Nat → Option Nat) (lp : List Nat) (pf : Nat → RS) (N : Nat) (v1 : Int32) (Q : Int32 → Prop) (h : fX5_made N sb sy v1 Q) : MetG l g yX5_made wsX5_made rmX5_made [.ref ((a 0) 50), .int v1] (sysW g a sb lw st sp sd ss sy si lp pf) (fun _ : Unit => sysW g a sb lw st sp sd ss sy si lp pf) (qI (fun (r : Int32) (_ : Unit) => Q r)) 0 0 := by
  refine met_of (cc := cX5_made) (own := RX5) (nL := 2) (ret := (some .int)) (lv := [(0, .ref ((a 0) 50)), (1, .int v1)]) (by decide) rfl rfl (Nat.le_of_ble_eq_true rfl) rfl ?_
  intro x C hl hZ
  subst hl
  unfold fX5_made at h
  refine r_iload_n C dX5_made_0 rfl ?_
  refine r_iconst (v := 0) C dX5_made_1 (by decide) ?_
  refine r_bipush (v := 19) C dX5_made_2 (by decide) ?_
  refine callR_I C (run_S (As := [.int v1, .int 0, .int 19]) (rest := []) C hZ.2.2 (tX5_isWithin _ g N v1 0 19 _ h) gX5_made_X5_isWithin rfl dsX5_isWithin rfl rfl ⟨(Nat.le_of_ble_eq_true rfl), (Nat.le_of_ble_eq_true rfl)⟩ rfl (Nat.le_of_ble_eq_true rfl) dX5_made_4 ⟨Nat.zero_le _, Nat.zero_le _⟩) (List.nil_sublist _) (fun _ => rfl) (fun r1 _ h => ?_)
  refine r_if_eq (tgt := 21) C dX5_made_7 (by decide) (fun c2 => ?_) (fun c2 => ?_)
  · have h := h.1 c2
    refine r_iconst (v := (-1)) C dX5_made_21 (by decide) ?_
    exact r_iret C hZ (u := ()) h rfl dX5_made_22
  · have h := h.2 c2
    refine r_aload_n C dX5_made_10 rfl ?_
    refine r_get (cn := RX5) (T := TX5) (N := 13) (ci := 5) C uwX5_made_5 0 rfl rfl 12 (by decide) kwX5_made_0 (v := .int (sb.1 12)) rfl dX5_made_11 ?_
    refine r_iload_n C dX5_made_14 rfl ?_
    refine callR_I C (run_S (As := [.int (sb.1 12), .int v1]) (rest := []) C hZ.2.2 (tX5_isIn _ g N (sb.1 12) v1 _ h) gX5_made_X5_isIn rfl dsX5_isIn rfl rfl ⟨(Nat.le_of_ble_eq_true rfl), (Nat.le_of_ble_eq_true rfl)⟩ rfl (Nat.le_of_ble_eq_true rfl) dX5_made_15 ⟨Nat.zero_le _, Nat.zero_le _⟩) (List.nil_sublist _) (fun _ => rfl) (fun r3 _ h => ?_)
    refine r_if_ne (tgt := 23) C dX5_made_18 (by decide) (fun c4 => ?_) (fun c4 => ?_)
    · have h := h.1 c4
      refine r_aload_n C dX5_made_23 rfl ?_
      refine r_get (cn := RX5) (T := TX5) (N := 13) (ci := 5) C uwX5_made_5 0 rfl rfl 11 (by decide) kwX5_made_2 (v := .ref ((a 5) 50)) rfl dX5_made_24 ?_
      refine r_aload_n C dX5_made_27 rfl ?_
      refine r_get (cn := RX5) (T := TX5) (N := 13) (ci := 5) C uwX5_made_5 0 rfl rfl 12 (by decide) kwX5_made_0 (v := .int (sb.1 12)) rfl dX5_made_28 ?_
      refine r_iconst (v := 1) C dX5_made_31 (by decide) ?_
      refine r_iload_n C dX5_made_32 rfl ?_
      refine r_ishl C dX5_made_33 ?_
      refine r_iconst (v := 1) C dX5_made_34 (by decide) ?_
      refine r_isub C dX5_made_35 ?_
      refine r_iand C dX5_made_36 ?_
      refine callR_I C (run_S (As := [.int ((sb.1 12) &&& (((1 : Int32) <<< (v1 &&& 31)) - (1 : Int32)))]) (rest := [.ref ((a 5) 50)]) C hZ.2.2 (tJ6_bitCount_0f7a4 _ g N ((sb.1 12) &&& (((1 : Int32) <<< (v1 &&& 31)) - (1 : Int32))) _ h) gX5_made_J6_bitCount_0f7a4 rfl dsJ6_bitCount_0f7a4 rfl rfl ⟨(Nat.le_of_ble_eq_true rfl), (Nat.le_of_ble_eq_true rfl)⟩ rfl (Nat.le_of_ble_eq_true rfl) dX5_made_37 ⟨Nat.zero_le _, Nat.zero_le _⟩) (List.nil_sublist _) (fun _ => rfl) (fun r5 _ h => ?_)
      refine callR_I C (run_V (As := [.int r5]) (rest := []) (ci := 4) C hZ.2.2 (tX4_termOf _ g (a 5) sy si N r5 _ h) gX5_made_X4_termOf rfl dsX4_termOf rfl rfl ⟨(Nat.le_of_ble_eq_true rfl), (Nat.le_of_ble_eq_true rfl)⟩ rfl (List.mem_of_getElem? (i := 25) rfl) rfl (Nat.le_of_ble_eq_true rfl) dX5_made_40 ⟨Nat.zero_le _, Nat.zero_le _⟩) sl_y (fun _ => rfl) (fun r6 _ h => ?_)
      exact r_iret C hZ (u := ()) h rfl dX5_made_43
    · have h := h.2 c4
      refine r_iconst (v := (-1)) C dX5_made_21 (by decide) ?_
      exact r_iret C hZ (u := ()) h rfl dX5_made_22
def rmX5_told : Room := { frames := 1, cells := 0, slots := 0, locals := 22 }
theorem kwX5_told_0 : Cond.fieldLink RX5 212 "WantsBench" "runLength" "I" ∈ wsX5_told := by decide +kernel
theorem uwX5_told_5 : ∀ w ∈ wsX50, w ∈ wsX5_told := by decide +kernel
theorem kwX5_told_2 : Cond.fieldLink RX5 22 "WantsBench" "run" "[B" ∈ wsX5_told := by decide +kernel
def fX5_told (N : Nat) (sb : RS) (v1 : Int32) (v2 : Int32) (Q : Int32 → RS → Prop) : Prop :=
  (fX5_isWithin N v1 0 7 (fun r1 => ((r1 = 0 → Q (-1) sb) ∧ (¬ r1 = 0 → (fX5_isWithin N v2 0 7 (fun r3 => ((¬ r3 = 0 → (((sb.1 5) < 200 → (vp_in (sb.1 5) 200 ∧ (∀ sb7 : RS, sb7 = sA sb 4 (upd (sb.2.1 4) (sb.1 5).toNatClampNeg (vp_nar .byte ((((8 : Int32) * v1) + v2).toInt8.toInt32))) → (∀ sb8 : RS, sb8 = sI sb7 5 ((sb7.1 5) + (1 : Int32)) → Q (sb8.1 5) sb8)))) ∧ (¬ (sb.1 5) < 200 → Q (-2) sb))) ∧ (r3 = 0 → Q (-1) sb))))))))
set_option maxRecDepth 100000 in
set_option maxHeartbeats 4000000 in
theorem tX5_told (l : Launch) (g : Gx) (a : Nat → Nat → Nat) (sb : RS) (lw : Nat → Option Nat) (st : RS) (sp : RS) (sd : RS) (ss : RS) (sy : RS) (si : Nat → Option Nat) (lp : List Nat) (pf : Nat → RS) (N : Nat) (v1 : Int32) (v2 : Int32) (Q : Int32 → RS → Prop) (h : fX5_told N sb v1 v2 Q) : MetG l g yX5_told wsX5_told rmX5_told [.ref ((a 0) 50), .int v1, .int v2] (sysW g a sb lw st sp sd ss sy si lp pf) (fun u : RS => sysW g a u lw st sp sd ss sy si lp pf) (qI (fun (r : Int32) (u : RS) => Q r u)) 0 0 := by
  refine met_of (cc := cX5_told) (own := RX5) (nL := 3) (ret := (some .int)) (lv := [(0, .ref ((a 0) 50)), (1, .int v1), (2, .int v2)]) (by decide) rfl rfl (Nat.le_of_ble_eq_true rfl) rfl ?_
  intro x C hl hZ
  subst hl
  unfold fX5_told at h
  refine r_iload_n C dX5_told_0 rfl ?_
  refine r_iconst (v := 0) C dX5_told_1 (by decide) ?_
  refine r_bipush (v := 7) C dX5_told_2 (by decide) ?_
  refine callR_I C (run_S (As := [.int v1, .int 0, .int 7]) (rest := []) C hZ.2.2 (tX5_isWithin _ g N v1 0 7 _ h) gX5_told_X5_isWithin rfl dsX5_isWithin rfl rfl ⟨(Nat.le_of_ble_eq_true rfl), (Nat.le_of_ble_eq_true rfl)⟩ rfl (Nat.le_of_ble_eq_true rfl) dX5_told_4 ⟨Nat.zero_le _, Nat.zero_le _⟩) (List.nil_sublist _) (fun _ => rfl) (fun r1 _ h => ?_)
  refine r_if_eq (tgt := 20) C dX5_told_7 (by decide) (fun c2 => ?_) (fun c2 => ?_)
  · have h := h.1 c2
    refine r_iconst (v := (-1)) C dX5_told_20 (by decide) ?_
    exact r_iret C hZ (u := sb) h rfl dX5_told_21
  · have h := h.2 c2
    refine r_iload_n C dX5_told_10 rfl ?_
    refine r_iconst (v := 0) C dX5_told_11 (by decide) ?_
    refine r_bipush (v := 7) C dX5_told_12 (by decide) ?_
    refine callR_I C (run_S (As := [.int v2, .int 0, .int 7]) (rest := []) C hZ.2.2 (tX5_isWithin _ g N v2 0 7 _ h) gX5_told_X5_isWithin rfl dsX5_isWithin rfl rfl ⟨(Nat.le_of_ble_eq_true rfl), (Nat.le_of_ble_eq_true rfl)⟩ rfl (Nat.le_of_ble_eq_true rfl) dX5_told_14 ⟨Nat.zero_le _, Nat.zero_le _⟩) (List.nil_sublist _) (fun _ => rfl) (fun r3 _ h => ?_)
    refine r_if_ne (tgt := 22) C dX5_told_17 (by decide) (fun c4 => ?_) (fun c4 => ?_)
    · have h := h.1 c4
      refine r_aload_n C dX5_told_22 rfl ?_
      refine r_get (cn := RX5) (T := TX5) (N := 13) (ci := 5) C uwX5_told_5 0 rfl rfl 5 (by decide) kwX5_told_0 (v := .int (sb.1 5)) rfl dX5_told_23 ?_
      refine r_sipush (v := 200) C dX5_told_26 (by decide) ?_
      refine r_icmp_lt (tgt := 35) C dX5_told_29 (by decide) (fun c5 => ?_) (fun c5 => ?_)
      · have h := h.1 c5
        refine r_aload_n C dX5_told_35 rfl ?_
        refine r_get (cn := RX5) (T := TX5) (N := 13) (ci := 5) C uwX5_told_5 0 rfl rfl 4 (by decide) kwX5_told_2 (v := .ref ((a 0) 4)) rfl dX5_told_36 ?_
        refine r_aload_n C dX5_told_39 rfl ?_
        refine r_get (cn := RX5) (T := TX5) (N := 13) (ci := 5) C uwX5_told_5 0 rfl rfl 5 (by decide) kwX5_told_0 (v := .int (sb.1 5)) rfl dX5_told_40 ?_
        refine r_bipush (v := 8) C dX5_told_43 (by decide) ?_
        refine r_iload_n C dX5_told_45 rfl ?_
        refine r_imul C dX5_told_46 ?_
        refine r_iload_n C dX5_told_47 rfl ?_
        refine r_iadd C dX5_told_48 ?_
        refine r_i2b C dX5_told_49 ?_
        obtain ⟨hi6, h⟩ := h
        obtain ⟨sb7, hsb7⟩ : ∃ z : RS, z = sA sb 4 (upd (sb.2.1 4) (sb.1 5).toNatClampNeg (vp_nar .byte ((((8 : Int32) * v1) + v2).toInt8.toInt32))) := ⟨_, rfl⟩
        have h := h sb7 hsb7
        refine r_bast (ws' := sysW g a sb7 lw st sp sd ss sy si lp pf) C 2 rfl hi6 dX5_told_50 (by rw [hsb7]; rfl) ?_
        refine r_aload_n C dX5_told_51 rfl ?_
        refine r_dup C dX5_told_52 rfl ?_
        refine r_get (cn := RX5) (T := TX5) (N := 13) (ci := 5) C uwX5_told_5 0 rfl rfl 5 (by decide) kwX5_told_0 (v := .int (sb7.1 5)) rfl dX5_told_53 ?_
        refine r_iconst (v := 1) C dX5_told_56 (by decide) ?_
        refine r_iadd C dX5_told_57 ?_
        obtain ⟨sb8, hsb8⟩ : ∃ z : RS, z = sI sb7 5 ((sb7.1 5) + (1 : Int32)) := ⟨_, rfl⟩
        have h := h sb8 hsb8
        refine r_put (cn := RX5) (T := TX5) (N := 13) (ci := 5) (ws' := sysW g a sb8 lw st sp sd ss sy si lp pf) C uwX5_told_5 tyX5 tyX5_ok nmX5 0 rfl rfl 5 (by decide) kwX5_told_0 rfl rfl rfl (Nat.le_of_ble_eq_true rfl) dX5_told_58 (by rw [hsb8]; rfl) ?_
        refine r_aload_n C dX5_told_61 rfl ?_
        refine r_get (cn := RX5) (T := TX5) (N := 13) (ci := 5) C uwX5_told_5 0 rfl rfl 5 (by decide) kwX5_told_0 (v := .int (sb8.1 5)) rfl dX5_told_62 ?_
        exact r_iret C hZ (u := sb8) h rfl dX5_told_65
      · have h := h.2 c5
        refine r_bipush (v := (-2)) C dX5_told_32 (by decide) ?_
        exact r_iret C hZ (u := sb) h rfl dX5_told_34
    · have h := h.2 c4
      refine r_iconst (v := (-1)) C dX5_told_20 (by decide) ?_
      exact r_iret C hZ (u := sb) h rfl dX5_told_21
def rmX5_clear : Room := { frames := 0, cells := 0, slots := 0, locals := 0 }
theorem kwX5_clear_0 : Cond.fieldLink RX5 212 "WantsBench" "runLength" "I" ∈ wsX5_clear := by decide +kernel
theorem uwX5_clear_5 : ∀ w ∈ wsX50, w ∈ wsX5_clear := by decide +kernel
def fX5_clear (N : Nat) (sb : RS) (Q : Int32 → RS → Prop) : Prop :=
  (∀ x1 : Int32, x1 = sb.1 5 → (∀ sb2 : RS, sb2 = sI sb 5 0 → Q x1 sb2))
set_option maxRecDepth 100000 in
set_option maxHeartbeats 4000000 in
theorem tX5_clear (l : Launch) (g : Gx) (a : Nat → Nat → Nat) (sb : RS) (lw : Nat → Option Nat) (st : RS) (sp : RS) (sd : RS) (ss : RS) (sy : RS) (si : Nat → Option Nat) (lp : List Nat) (pf : Nat → RS) (N : Nat) (Q : Int32 → RS → Prop) (h : fX5_clear N sb Q) : MetG l g yX5_clear wsX5_clear rmX5_clear [.ref ((a 0) 50)] (sysW g a sb lw st sp sd ss sy si lp pf) (fun u : RS => sysW g a u lw st sp sd ss sy si lp pf) (qI (fun (r : Int32) (u : RS) => Q r u)) 0 0 := by
  refine met_of (cc := cX5_clear) (own := RX5) (nL := 2) (ret := (some .int)) (lv := [(0, .ref ((a 0) 50))]) (by decide) rfl rfl (Nat.le_of_ble_eq_true rfl) rfl ?_
  intro x C hl hZ
  subst hl
  unfold fX5_clear at h
  refine r_aload_n C dX5_clear_0 rfl ?_
  refine r_get (cn := RX5) (T := TX5) (N := 13) (ci := 5) C uwX5_clear_5 0 rfl rfl 5 (by decide) kwX5_clear_0 (v := .int (sb.1 5)) rfl dX5_clear_1 ?_
  refine r_topi (fun x1 ex1 => ?_)
  have h := h x1 ex1
  refine r_istore_n (lv' := [(0, .ref ((a 0) 50)), (1, .int x1)]) C dX5_clear_4 [some 0, none] (by decide) rfl rfl ?_
  refine r_aload_n C dX5_clear_5 rfl ?_
  refine r_iconst (v := 0) C dX5_clear_6 (by decide) ?_
  obtain ⟨sb2, hsb2⟩ : ∃ z : RS, z = sI sb 5 0 := ⟨_, rfl⟩
  have h := h sb2 hsb2
  refine r_put (cn := RX5) (T := TX5) (N := 13) (ci := 5) (ws' := sysW g a sb2 lw st sp sd ss sy si lp pf) C uwX5_clear_5 tyX5 tyX5_ok nmX5 0 rfl rfl 5 (by decide) kwX5_clear_0 rfl rfl rfl (Nat.le_of_ble_eq_true rfl) dX5_clear_7 (by rw [hsb2]; rfl) ?_
  refine r_iload_n C dX5_clear_10 rfl ?_
  exact r_iret C hZ (u := sb2) h rfl dX5_clear_11
def rmX5_held : Room := { frames := 4, cells := 0, slots := 0, locals := 98 }
theorem kwX5_held_0 : Cond.fieldLink RX5 22 "WantsBench" "run" "[B" ∈ wsX5_held := by decide +kernel
theorem uwX5_held_5 : ∀ w ∈ wsX50, w ∈ wsX5_held := by decide +kernel
theorem kwX5_held_2 : Cond.fieldLink RX5 212 "WantsBench" "runLength" "I" ∈ wsX5_held := by decide +kernel
def fX5_held (N : Nat) (sb : RS) (lw : Nat → Option Nat) (lp : List Nat) (pf : Nat → RS) (v1 : Int32) (Q : Int32 → Prop) : Prop :=
  (fX5_lawOf N sb lw v1 (fun r1 => ((r1 = none → Q (-1)) ∧ (∀ q2 : Nat, r1 = some q2 → (q2 ∈ lp ∧ (fX1_firstBroken N (sb.2.1 4) (pf q2) (sb.1 5) (fun r4 => Q r4)))))))
set_option maxRecDepth 100000 in
set_option maxHeartbeats 4000000 in
theorem tX5_held (l : Launch) (g : Gx) (a : Nat → Nat → Nat) (sb : RS) (lw : Nat → Option Nat) (st : RS) (sp : RS) (sd : RS) (ss : RS) (sy : RS) (si : Nat → Option Nat) (lp : List Nat) (pf : Nat → RS) (N : Nat) (v1 : Int32) (Q : Int32 → Prop) (h : fX5_held N sb lw lp pf v1 Q) : MetG l g yX5_held wsX5_held rmX5_held [.ref ((a 0) 50), .int v1] (sysW g a sb lw st sp sd ss sy si lp pf) (fun _ : Unit => sysW g a sb lw st sp sd ss sy si lp pf) (qI (fun (r : Int32) (_ : Unit) => Q r)) 0 0 := by
  refine met_of (cc := cX5_held) (own := RX5) (nL := 3) (ret := (some .int)) (lv := [(0, .ref ((a 0) 50)), (1, .int v1)]) (by decide) rfl rfl (Nat.le_of_ble_eq_true rfl) rfl ?_
  intro x C hl hZ
  subst hl
  unfold fX5_held at h
  refine r_aload_n C dX5_held_0 rfl ?_
  refine r_iload_n C dX5_held_1 rfl ?_
  refine callR_A C (run_V (As := [.int v1]) (rest := []) (ci := 5) C hZ.2.2 (tX5_lawOf _ g a sb lw st sp sd ss sy si lp pf N v1 _ h) gX5_held_X5_lawOf rfl dsX5_lawOf rfl rfl ⟨(Nat.le_of_ble_eq_true rfl), (Nat.le_of_ble_eq_true rfl)⟩ rfl (List.mem_of_getElem? (i := 0) rfl) rfl (Nat.le_of_ble_eq_true rfl) dX5_held_2 ⟨Nat.zero_le _, Nat.zero_le _⟩) (List.Sublist.refl _) (fun _ => rfl) (fun r1 _ h => ?_)
  cases r1 with
  | none =>
    have h := h.1 rfl
    show St x _ _ _ _ [.null] _
    refine r_astore_nN (lv' := [(0, .ref ((a 0) 50)), (2, .null)]) C dX5_held_5 [some 0, none] (by decide) rfl rfl ?_
    refine r_aload_nN C dX5_held_6 rfl ?_
    refine r_ifnonnullN C dX5_held_7 ?_
    refine r_iconst (v := (-1)) C dX5_held_10 (by decide) ?_
    refine r_goto (tgt := 26) C dX5_held_11 (by decide) ?_
    exact r_iret C hZ (u := ()) h rfl dX5_held_26
  | some q2 =>
    have h := h.2 q2 rfl
    show St x _ _ _ _ [.ref q2] _
    refine r_astore_n (lv' := [(0, .ref ((a 0) 50)), (2, .ref q2)]) C dX5_held_5 [some 0, none] (by decide) rfl rfl ?_
    refine r_aload_n C dX5_held_6 rfl ?_
    refine r_ifnonnull (tgt := 14) C dX5_held_7 (by decide) ?_
    refine r_aload_n C dX5_held_14 rfl ?_
    refine r_aload_n C dX5_held_15 rfl ?_
    refine r_get (cn := RX5) (T := TX5) (N := 13) (ci := 5) C uwX5_held_5 0 rfl rfl 4 (by decide) kwX5_held_0 (v := .ref ((a 0) 4)) rfl dX5_held_16 ?_
    refine r_aload_n C dX5_held_19 rfl ?_
    refine r_get (cn := RX5) (T := TX5) (N := 13) (ci := 5) C uwX5_held_5 0 rfl rfl 5 (by decide) kwX5_held_2 (v := .int (sb.1 5)) rfl dX5_held_20 ?_
    obtain ⟨hq3, h⟩ := h
    refine callR_I C (run_V (As := [.ref ((a 0) 4), .int (sb.1 5)]) (rest := []) (ci := 1) C hZ.2.2 (tX1_firstBroken _ g q2 (a 0 4) (sb.2.1 4) (pf q2) N (sb.1 5) _ h) gX5_held_X1_firstBroken rfl dsX1_firstBroken rfl rfl ⟨(Nat.le_of_ble_eq_true rfl), (Nat.le_of_ble_eq_true rfl)⟩ rfl (List.mem_append_right _ (pl_mem hq3)) rfl (Nat.le_of_ble_eq_true rfl) dX5_held_23 ⟨Nat.zero_le _, Nat.zero_le _⟩) (sl_run hq3) (fun _ => rfl) (fun r4 _ h => ?_)
    exact r_iret C hZ (u := ()) h rfl dX5_held_26
def rmX5_isDay : Room := { frames := 1, cells := 0, slots := 0, locals := 22 }
def fX5_isDay (N : Nat) (v0 : Int32) (Q : Int32 → Prop) : Prop :=
  (fX5_isWithin N v0 0 9999 (fun r1 => (narrow .boolean (.int r1) = .int r1 ∧ Q r1)))
set_option maxRecDepth 100000 in
set_option maxHeartbeats 4000000 in
theorem tX5_isDay (l : Launch) (g : Gx) (N : Nat) (v0 : Int32) (Q : Int32 → Prop) (h : fX5_isDay N v0 Q) : MetG l g yX5_isDay wsX5_isDay rmX5_isDay [.int v0] (([] : va_W)) (fun _ : Unit => ([] : va_W)) (qI (fun (r : Int32) (_ : Unit) => Q r)) 0 0 := by
  refine met_of (cc := cX5_isDay) (own := RX5) (nL := 1) (ret := (some .boolean)) (lv := [(0, .int v0)]) (by decide) rfl rfl (Nat.le_of_ble_eq_true rfl) rfl ?_
  intro x C hl hZ
  subst hl
  unfold fX5_isDay at h
  refine r_iload_n C dX5_isDay_0 rfl ?_
  refine r_iconst (v := 0) C dX5_isDay_1 (by decide) ?_
  refine r_sipush (v := 9999) C dX5_isDay_2 (by decide) ?_
  refine callR_I C (run_S (As := [.int v0, .int 0, .int 9999]) (rest := []) C hZ.2.2 (tX5_isWithin _ g N v0 0 9999 _ h) gX5_isDay_X5_isWithin rfl dsX5_isWithin rfl rfl ⟨(Nat.le_of_ble_eq_true rfl), (Nat.le_of_ble_eq_true rfl)⟩ rfl (Nat.le_of_ble_eq_true rfl) dX5_isDay_5 ⟨Nat.zero_le _, Nat.zero_le _⟩) (List.nil_sublist _) (fun _ => rfl) (fun r1 _ h => ?_)
  exact r_zret C hZ (u := ()) h.1 h.2 rfl dX5_isDay_8
def rmX5_kept : Room := { frames := 4, cells := 0, slots := 0, locals := 98 }
theorem kwX5_kept_0 : Cond.fieldLink RX5 65 "WantsBench" "lawCount" "I" ∈ wsX5_kept := by decide +kernel
theorem uwX5_kept_5 : ∀ w ∈ wsX50, w ∈ wsX5_kept := by decide +kernel
theorem kwX5_kept_2 : Cond.fieldLink RX5 18 "WantsBench" "laws" "[LWantsBench$Law;" ∈ wsX5_kept := by decide +kernel
theorem kwX5_kept_3 : Cond.fieldLink RX5 22 "WantsBench" "run" "[B" ∈ wsX5_kept := by decide +kernel
theorem kwX5_kept_4 : Cond.fieldLink RX5 212 "WantsBench" "runLength" "I" ∈ wsX5_kept := by decide +kernel
def fX5_kept_13b (N : Nat) (sb : RS) (lw : Nat → Option Nat) (lp : List Nat) (pf : Nat → RS) (v1 : Int32) (v2 : Int32) (v3 : Int32) (R : Int32 → Int32 → Prop) (K : Int32 → Prop) (Q : Int32 → Prop) : Prop :=
  (((sb.1 2) ≤ v3 → K v2) ∧ (¬ (sb.1 2) ≤ v3 → (vp_in v3 20 ∧ (∃ q5 : Nat, lw v3.toNatClampNeg = some q5 ∧ (q5 ∈ lp ∧ (fX1_isKnown N (pf q5) v1 (fun r8 => ((r8 = 0 → (∀ x10 : Int32, x10 = v3 + 1 → R v2 x10)) ∧ (¬ r8 = 0 → (vp_in v3 20 ∧ (∃ q12 : Nat, lw v3.toNatClampNeg = some q12 ∧ (q12 ∈ lp ∧ (fX1_firstBroken N (sb.2.1 4) (pf q12) (sb.1 5) (fun r15 => ((¬ r15 = (-4) → (∀ x17 : Int32, x17 = v3 + 1 → R v2 x17)) ∧ (r15 = (-4) → (∀ x18 : Int32, x18 = v2 + 1 → (∀ x19 : Int32, x19 = v3 + 1 → R x18 x19))))))))))))))))))
set_option maxRecDepth 100000 in
set_option maxHeartbeats 4000000 in
theorem wfX5_kept_13b {x : Nx} {g : Gx} {W0 : va_W} {a : Nat → Nat → Nat} {sb : RS} {lw : Nat → Option Nat} {st : RS} {sp : RS} {sd : RS} {ss : RS} {sy : RS} {si : Nat → Option Nat} {lp : List Nat} {pf : Nat → RS} {N : Nat} {v1 : Int32} {v2 : Int32} {v3 : Int32} {R : Int32 → Int32 → Prop} {K : Int32 → Prop} {Q : Int32 → Prop} (C : Cx x g cX5_kept RX5 wsX5_kept rmX5_kept yX5_kept (some .int) 4) (hZ : Zq x g W0 (fun _ : Unit => sysW g a sb lw st sp sd ss sy si lp pf) (qI (fun (r : Int32) (_ : Unit) => Q r)) 0 0) (hR : ∀ (w2 : Int32) (w3 : Int32), R w2 w3 → St x 0 0 (sysW g a sb lw st sp sd ss sy si lp pf) [(0, .ref ((a 0) 50)), (1, .int v1), (2, .int w2), (3, .int w3)] [] 13) (hK : ∀ (w2 : Int32), K w2 → St x 0 0 (sysW g a sb lw st sp sd ss sy si lp pf) [(2, .int w2)] [] 65) (h : fX5_kept_13b N sb lw lp pf v1 v2 v3 R K Q) : St x 0 0 (sysW g a sb lw st sp sd ss sy si lp pf) [(0, .ref ((a 0) 50)), (1, .int v1), (2, .int v2), (3, .int v3)] [] 13 := by
  unfold fX5_kept_13b at h
  refine r_iload_n C dX5_kept_13 rfl ?_
  refine r_aload_n C dX5_kept_14 rfl ?_
  refine r_get (cn := RX5) (T := TX5) (N := 13) (ci := 5) C uwX5_kept_5 0 rfl rfl 2 (by decide) kwX5_kept_0 (v := .int (sb.1 2)) rfl dX5_kept_15 ?_
  refine r_icmp_ge (tgt := 65) C dX5_kept_18 (by decide) (fun c3 => ?_) (fun c3 => ?_)
  · have h := h.1 c3
    refine r_sub [2] (lv' := [(2, .int v2)]) rfl ?_
    exact hK v2 h
  · have h := h.2 c3
    refine r_aload_n C dX5_kept_21 rfl ?_
    refine r_get (cn := RX5) (T := TX5) (N := 13) (ci := 5) C uwX5_kept_5 0 rfl rfl 1 (by decide) kwX5_kept_2 (v := .ref ((a 0) 1)) rfl dX5_kept_22 ?_
    refine r_iload_n C dX5_kept_25 rfl ?_
    obtain ⟨hi4, h⟩ := h
    obtain ⟨q5, hq6, h⟩ := h
    refine r_aaldS C 1 rfl hi4 hq6 dX5_kept_26 ?_
    refine r_iload_n C dX5_kept_27 rfl ?_
    obtain ⟨hq7, h⟩ := h
    refine callR_I C (run_V (As := [.int v1]) (rest := []) (ci := 1) C hZ.2.2 (tX1_isKnown _ g q5 (pf q5) N v1 _ h) gX5_kept_X1_isKnown rfl dsX1_isKnown rfl rfl ⟨(Nat.le_of_ble_eq_true rfl), (Nat.le_of_ble_eq_true rfl)⟩ rfl (List.mem_append_right _ (pl_mem hq7)) rfl (Nat.le_of_ble_eq_true rfl) dX5_kept_28 ⟨Nat.zero_le _, Nat.zero_le _⟩) (slq hq7) (fun _ => rfl) (fun r8 _ h => ?_)
    refine r_if_eq (tgt := 59) C dX5_kept_31 (by decide) (fun c9 => ?_) (fun c9 => ?_)
    · have h := h.1 c9
      obtain ⟨x10, ex10⟩ : ∃ z : Int32, z = v3 + 1 := ⟨_, rfl⟩
      have h := h x10 ex10
      refine r_iinc (v := x10) (lv' := [(0, .ref ((a 0) 50)), (1, .int v1), (2, .int v2), (3, .int x10)]) C dX5_kept_59 rfl (by rw [ex10]; rfl) [some 0, some 1, some 2, none] (by decide) rfl rfl ?_
      refine r_goto (tgt := 13) C dX5_kept_62 (by decide) ?_
      exact hR v2 x10 h
    · have h := h.2 c9
      refine r_aload_n C dX5_kept_34 rfl ?_
      refine r_get (cn := RX5) (T := TX5) (N := 13) (ci := 5) C uwX5_kept_5 0 rfl rfl 1 (by decide) kwX5_kept_2 (v := .ref ((a 0) 1)) rfl dX5_kept_35 ?_
      refine r_iload_n C dX5_kept_38 rfl ?_
      obtain ⟨hi11, h⟩ := h
      obtain ⟨q12, hq13, h⟩ := h
      refine r_aaldS C 1 rfl hi11 hq13 dX5_kept_39 ?_
      refine r_aload_n C dX5_kept_40 rfl ?_
      refine r_get (cn := RX5) (T := TX5) (N := 13) (ci := 5) C uwX5_kept_5 0 rfl rfl 4 (by decide) kwX5_kept_3 (v := .ref ((a 0) 4)) rfl dX5_kept_41 ?_
      refine r_aload_n C dX5_kept_44 rfl ?_
      refine r_get (cn := RX5) (T := TX5) (N := 13) (ci := 5) C uwX5_kept_5 0 rfl rfl 5 (by decide) kwX5_kept_4 (v := .int (sb.1 5)) rfl dX5_kept_45 ?_
      obtain ⟨hq14, h⟩ := h
      refine callR_I C (run_V (As := [.ref ((a 0) 4), .int (sb.1 5)]) (rest := []) (ci := 1) C hZ.2.2 (tX1_firstBroken _ g q12 (a 0 4) (sb.2.1 4) (pf q12) N (sb.1 5) _ h) gX5_kept_X1_firstBroken rfl dsX1_firstBroken rfl rfl ⟨(Nat.le_of_ble_eq_true rfl), (Nat.le_of_ble_eq_true rfl)⟩ rfl (List.mem_append_right _ (pl_mem hq14)) rfl (Nat.le_of_ble_eq_true rfl) dX5_kept_48 ⟨Nat.zero_le _, Nat.zero_le _⟩) (sl_run hq14) (fun _ => rfl) (fun r15 _ h => ?_)
      refine r_bipush (v := (-4)) C dX5_kept_51 (by decide) ?_
      refine r_icmp_ne (tgt := 59) C dX5_kept_53 (by decide) (fun c16 => ?_) (fun c16 => ?_)
      · have h := h.1 c16
        obtain ⟨x17, ex17⟩ : ∃ z : Int32, z = v3 + 1 := ⟨_, rfl⟩
        have h := h x17 ex17
        refine r_iinc (v := x17) (lv' := [(0, .ref ((a 0) 50)), (1, .int v1), (2, .int v2), (3, .int x17)]) C dX5_kept_59 rfl (by rw [ex17]; rfl) [some 0, some 1, some 2, none] (by decide) rfl rfl ?_
        refine r_goto (tgt := 13) C dX5_kept_62 (by decide) ?_
        exact hR v2 x17 h
      · have h := h.2 c16
        obtain ⟨x18, ex18⟩ : ∃ z : Int32, z = v2 + 1 := ⟨_, rfl⟩
        have h := h x18 ex18
        refine r_iinc (v := x18) (lv' := [(0, .ref ((a 0) 50)), (1, .int v1), (2, .int x18), (3, .int v3)]) C dX5_kept_56 rfl (by rw [ex18]; rfl) [some 0, some 1, none, some 3] (by decide) rfl rfl ?_
        obtain ⟨x19, ex19⟩ : ∃ z : Int32, z = v3 + 1 := ⟨_, rfl⟩
        have h := h x19 ex19
        refine r_iinc (v := x19) (lv' := [(0, .ref ((a 0) 50)), (1, .int v1), (2, .int x18), (3, .int x19)]) C dX5_kept_59 rfl (by rw [ex19]; rfl) [some 0, some 1, some 2, none] (by decide) rfl rfl ?_
        refine r_goto (tgt := 13) C dX5_kept_62 (by decide) ?_
        exact hR x18 x19 h
def fX5_kept_13 (N : Nat) (sb : RS) (lw : Nat → Option Nat) (lp : List Nat) (pf : Nat → RS) (v1 : Int32) (K : Int32 → Prop) (Q : Int32 → Prop) : Nat → Int32 → Int32 → Prop
  | 0, _, _ => False
  | n + 1, v2, v3 => fX5_kept_13b N sb lw lp pf v1 v2 v3 (fun v2 v3 => fX5_kept_13 N sb lw lp pf v1 K Q n v2 v3) K Q
set_option maxRecDepth 100000 in
set_option maxHeartbeats 4000000 in
theorem wfX5_kept_13 {x : Nx} {g : Gx} {W0 : va_W} {a : Nat → Nat → Nat} {sb : RS} {lw : Nat → Option Nat} {st : RS} {sp : RS} {sd : RS} {ss : RS} {sy : RS} {si : Nat → Option Nat} {lp : List Nat} {pf : Nat → RS} {N : Nat} {v1 : Int32} {K : Int32 → Prop} {Q : Int32 → Prop} (C : Cx x g cX5_kept RX5 wsX5_kept rmX5_kept yX5_kept (some .int) 4) (hZ : Zq x g W0 (fun _ : Unit => sysW g a sb lw st sp sd ss sy si lp pf) (qI (fun (r : Int32) (_ : Unit) => Q r)) 0 0) (hK : ∀ (w2 : Int32), K w2 → St x 0 0 (sysW g a sb lw st sp sd ss sy si lp pf) [(2, .int w2)] [] 65) : ∀ (n : Nat) (v2 : Int32) (v3 : Int32), fX5_kept_13 N sb lw lp pf v1 K Q n v2 v3 → St x 0 0 (sysW g a sb lw st sp sd ss sy si lp pf) [(0, .ref ((a 0) 50)), (1, .int v1), (2, .int v2), (3, .int v3)] [] 13 := by
  intro n
  induction n with
  | zero => intro v2 v3 h; exact False.elim h
  | succ n ih => intro v2 v3 h; exact wfX5_kept_13b C hZ ih hK h
def fX5_kept (N : Nat) (sb : RS) (lw : Nat → Option Nat) (lp : List Nat) (pf : Nat → RS) (v1 : Int32) (Q : Int32 → Prop) : Prop :=
  (fX5_isDay N v1 (fun r1 => ((¬ r1 = 0 → (fX5_kept_13 N sb lw lp pf v1 (fun x20 => Q x20) Q N 0 0)) ∧ (r1 = 0 → Q (-1)))))
set_option maxRecDepth 100000 in
set_option maxHeartbeats 4000000 in
theorem tX5_kept (l : Launch) (g : Gx) (a : Nat → Nat → Nat) (sb : RS) (lw : Nat → Option Nat) (st : RS) (sp : RS) (sd : RS) (ss : RS) (sy : RS) (si : Nat → Option Nat) (lp : List Nat) (pf : Nat → RS) (N : Nat) (v1 : Int32) (Q : Int32 → Prop) (h : fX5_kept N sb lw lp pf v1 Q) : MetG l g yX5_kept wsX5_kept rmX5_kept [.ref ((a 0) 50), .int v1] (sysW g a sb lw st sp sd ss sy si lp pf) (fun _ : Unit => sysW g a sb lw st sp sd ss sy si lp pf) (qI (fun (r : Int32) (_ : Unit) => Q r)) 0 0 := by
  refine met_of (cc := cX5_kept) (own := RX5) (nL := 4) (ret := (some .int)) (lv := [(0, .ref ((a 0) 50)), (1, .int v1)]) (by decide) rfl rfl (Nat.le_of_ble_eq_true rfl) rfl ?_
  intro x C hl hZ
  subst hl
  unfold fX5_kept at h
  refine r_iload_n C dX5_kept_0 rfl ?_
  refine callR_I C (run_S (As := [.int v1]) (rest := []) C hZ.2.2 (tX5_isDay _ g N v1 _ h) gX5_kept_X5_isDay rfl dsX5_isDay rfl rfl ⟨(Nat.le_of_ble_eq_true rfl), (Nat.le_of_ble_eq_true rfl)⟩ rfl (Nat.le_of_ble_eq_true rfl) dX5_kept_1 ⟨Nat.zero_le _, Nat.zero_le _⟩) (List.nil_sublist _) (fun _ => rfl) (fun r1 _ h => ?_)
  refine r_if_ne (tgt := 9) C dX5_kept_4 (by decide) (fun c2 => ?_) (fun c2 => ?_)
  · have h := h.1 c2
    refine r_iconst (v := 0) C dX5_kept_9 (by decide) ?_
    refine r_istore_n (lv' := [(0, .ref ((a 0) 50)), (1, .int v1), (2, .int 0)]) C dX5_kept_10 [some 0, some 1, none] (by decide) rfl rfl ?_
    refine r_iconst (v := 0) C dX5_kept_11 (by decide) ?_
    refine r_istore_n (lv' := [(0, .ref ((a 0) 50)), (1, .int v1), (2, .int 0), (3, .int 0)]) C dX5_kept_12 [some 0, some 1, some 2, none] (by decide) rfl rfl ?_
    refine wfX5_kept_13 C hZ (fun x20 h => ?_) N _ _ h
    refine r_iload_n C dX5_kept_65 rfl ?_
    exact r_iret C hZ (u := ()) h rfl dX5_kept_66
  · have h := h.2 c2
    refine r_iconst (v := (-1)) C dX5_kept_7 (by decide) ?_
    exact r_iret C hZ (u := ()) h rfl dX5_kept_8
def rmX5_part : Room := { frames := 1, cells := 0, slots := 0, locals := 20 }
theorem kwX5_part_0 : Cond.fieldLink RX5 29 "WantsBench" "parts" "LWantsBench$Parts;" ∈ wsX5_part := by decide +kernel
theorem uwX5_part_5 : ∀ w ∈ wsX50, w ∈ wsX5_part := by decide +kernel
def fX5_part (N : Nat) (sp : RS) (Q : Int32 → RS → Prop) : Prop :=
  (fX2_add N sp (fun r1 sp2 => Q r1 sp2))
set_option maxRecDepth 100000 in
set_option maxHeartbeats 4000000 in
theorem tX5_part (l : Launch) (g : Gx) (a : Nat → Nat → Nat) (sb : RS) (lw : Nat → Option Nat) (st : RS) (sp : RS) (sd : RS) (ss : RS) (sy : RS) (si : Nat → Option Nat) (lp : List Nat) (pf : Nat → RS) (N : Nat) (Q : Int32 → RS → Prop) (h : fX5_part N sp Q) : MetG l g yX5_part wsX5_part rmX5_part [.ref ((a 0) 50)] (sysW g a sb lw st sp sd ss sy si lp pf) (fun u : RS => sysW g a sb lw st u sd ss sy si lp pf) (qI (fun (r : Int32) (u : RS) => Q r u)) 0 0 := by
  refine met_of (cc := cX5_part) (own := RX5) (nL := 1) (ret := (some .int)) (lv := [(0, .ref ((a 0) 50))]) (by decide) rfl rfl (Nat.le_of_ble_eq_true rfl) rfl ?_
  intro x C hl hZ
  subst hl
  unfold fX5_part at h
  refine r_aload_n C dX5_part_0 rfl ?_
  refine r_get (cn := RX5) (T := TX5) (N := 13) (ci := 5) C uwX5_part_5 0 rfl rfl 6 (by decide) kwX5_part_0 (v := .ref ((a 2) 50)) rfl dX5_part_1 ?_
  refine callP_I (ws' := fun z => sysW g a sb lw st z sd ss sy si lp pf) C (run_V (As := []) (rest := []) (ci := 2) C hZ.2.2 (tX2_add _ g (a 2) sp N _ h) gX5_part_X2_add rfl dsX2_add rfl rfl ⟨(Nat.le_of_ble_eq_true rfl), (Nat.le_of_ble_eq_true rfl)⟩ rfl (List.mem_of_getElem? (i := 5) rfl) rfl (Nat.le_of_ble_eq_true rfl) dX5_part_4 ⟨Nat.zero_le _, Nat.zero_le _⟩) sp2 (fun _ => sp2) (fun r1 sp2 h => ?_)
  show St x 0 0 (sysW g a sb lw st sp2 sd ss sy si lp pf) _ _ 7
  exact r_iret C hZ (u := sp2) h rfl dX5_part_7
def rmX5_use : Room := { frames := 2, cells := 0, slots := 0, locals := 46 }
theorem kwX5_use_0 : Cond.fieldLink RX5 29 "WantsBench" "parts" "LWantsBench$Parts;" ∈ wsX5_use := by decide +kernel
theorem uwX5_use_5 : ∀ w ∈ wsX50, w ∈ wsX5_use := by decide +kernel
def fX5_use (N : Nat) (sp : RS) (v1 : Int32) (v2 : Int32) (v3 : Int32) (Q : Int32 → RS → Prop) : Prop :=
  (fX5_isBit N v3 (fun r1 => ((r1 = 0 → Q (-1) sp) ∧ (¬ r1 = 0 → (fX2_link N sp v1 v2 v3 (fun r3 sp4 => Q r3 sp4))))))
set_option maxRecDepth 100000 in
set_option maxHeartbeats 4000000 in
theorem tX5_use (l : Launch) (g : Gx) (a : Nat → Nat → Nat) (sb : RS) (lw : Nat → Option Nat) (st : RS) (sp : RS) (sd : RS) (ss : RS) (sy : RS) (si : Nat → Option Nat) (lp : List Nat) (pf : Nat → RS) (N : Nat) (v1 : Int32) (v2 : Int32) (v3 : Int32) (Q : Int32 → RS → Prop) (h : fX5_use N sp v1 v2 v3 Q) : MetG l g yX5_use wsX5_use rmX5_use [.ref ((a 0) 50), .int v1, .int v2, .int v3] (sysW g a sb lw st sp sd ss sy si lp pf) (fun u : RS => sysW g a sb lw st u sd ss sy si lp pf) (qI (fun (r : Int32) (u : RS) => Q r u)) 0 0 := by
  refine met_of (cc := cX5_use) (own := RX5) (nL := 4) (ret := (some .int)) (lv := [(0, .ref ((a 0) 50)), (1, .int v1), (2, .int v2), (3, .int v3)]) (by decide) rfl rfl (Nat.le_of_ble_eq_true rfl) rfl ?_
  intro x C hl hZ
  subst hl
  unfold fX5_use at h
  refine r_iload_n C dX5_use_0 rfl ?_
  refine callR_I C (run_S (As := [.int v3]) (rest := []) C hZ.2.2 (tX5_isBit _ g N v3 _ h) gX5_use_X5_isBit rfl dsX5_isBit rfl rfl ⟨(Nat.le_of_ble_eq_true rfl), (Nat.le_of_ble_eq_true rfl)⟩ rfl (Nat.le_of_ble_eq_true rfl) dX5_use_1 ⟨Nat.zero_le _, Nat.zero_le _⟩) (List.nil_sublist _) (fun _ => rfl) (fun r1 _ h => ?_)
  refine r_if_eq (tgt := 20) C dX5_use_4 (by decide) (fun c2 => ?_) (fun c2 => ?_)
  · have h := h.1 c2
    refine r_iconst (v := (-1)) C dX5_use_20 (by decide) ?_
    exact r_iret C hZ (u := sp) h rfl dX5_use_21
  · have h := h.2 c2
    refine r_aload_n C dX5_use_7 rfl ?_
    refine r_get (cn := RX5) (T := TX5) (N := 13) (ci := 5) C uwX5_use_5 0 rfl rfl 6 (by decide) kwX5_use_0 (v := .ref ((a 2) 50)) rfl dX5_use_8 ?_
    refine r_iload_n C dX5_use_11 rfl ?_
    refine r_iload_n C dX5_use_12 rfl ?_
    refine r_iload_n C dX5_use_13 rfl ?_
    refine callP_I (ws' := fun z => sysW g a sb lw st z sd ss sy si lp pf) C (run_V (As := [.int v1, .int v2, .int v3]) (rest := []) (ci := 2) C hZ.2.2 (tX2_link _ g (a 2) sp N v1 v2 v3 _ h) gX5_use_X2_link rfl dsX2_link rfl rfl ⟨(Nat.le_of_ble_eq_true rfl), (Nat.le_of_ble_eq_true rfl)⟩ rfl (List.mem_of_getElem? (i := 5) rfl) rfl (Nat.le_of_ble_eq_true rfl) dX5_use_14 ⟨Nat.zero_le _, Nat.zero_le _⟩) sp2 (fun _ => sp2) (fun r3 sp4 h => ?_)
    show St x 0 0 (sysW g a sb lw st sp4 sd ss sy si lp pf) _ _ 17
    refine r_goto (tgt := 21) C dX5_use_17 (by decide) ?_
    exact r_iret C hZ (u := sp4) h rfl dX5_use_21
def rmX5_lead : Room := { frames := 2, cells := 0, slots := 0, locals := 43 }
theorem kwX5_lead_0 : Cond.fieldLink RX5 29 "WantsBench" "parts" "LWantsBench$Parts;" ∈ wsX5_lead := by decide +kernel
theorem uwX5_lead_5 : ∀ w ∈ wsX50, w ∈ wsX5_lead := by decide +kernel
theorem kwX5_lead_2 : Cond.fieldLink RX5 98 "WantsBench$Law" "ledTo" "I" ∈ wsX5_lead := by decide +kernel
theorem uwX5_lead_1 : ∀ w ∈ wsX10, w ∈ wsX5_lead := by decide +kernel
def fX5_lead (N : Nat) (sb : RS) (lw : Nat → Option Nat) (sp : RS) (lp : List Nat) (pf : Nat → RS) (v1 : Int32) (v2 : Int32) (v3 : Int32) (Q : Int32 → (Nat → RS) → Prop) : Prop :=
  (fX5_lawOf N sb lw v1 (fun r1 => ((r1 = none → Q (-1) pf) ∧ (∀ q2 : Nat, r1 = some q2 → (fX2_has N sp v2 (fun r3 => ((r3 = 0 → Q (-1) pf) ∧ (¬ r3 = 0 → (fX5_isBit N v3 (fun r5 => ((¬ r5 = 0 → (q2 ∈ lp ∧ (fX5_isIn N ((pf q2).1 10) v2 (fun r8 => (fX5_bit N r8 (fun r9 => (q2 ∈ lp ∧ (fX5_withBit N ((pf q2).1 10) v2 v3 (fun r11 => (q2 ∈ lp ∧ (∀ pf13 : Nat → RS, pf13 = up pf q2 (sI (pf q2) 10 r11) → Q r9 pf13))))))))))) ∧ (r5 = 0 → Q (-1) pf))))))))))))
set_option maxRecDepth 100000 in
set_option maxHeartbeats 4000000 in
theorem tX5_lead (l : Launch) (g : Gx) (a : Nat → Nat → Nat) (sb : RS) (lw : Nat → Option Nat) (st : RS) (sp : RS) (sd : RS) (ss : RS) (sy : RS) (si : Nat → Option Nat) (lp : List Nat) (pf : Nat → RS) (N : Nat) (v1 : Int32) (v2 : Int32) (v3 : Int32) (Q : Int32 → (Nat → RS) → Prop) (h : fX5_lead N sb lw sp lp pf v1 v2 v3 Q) : MetG l g yX5_lead wsX5_lead rmX5_lead [.ref ((a 0) 50), .int v1, .int v2, .int v3] (sysW g a sb lw st sp sd ss sy si lp pf) (fun u : (Nat → RS) => sysW g a sb lw st sp sd ss sy si lp u) (qI (fun (r : Int32) (u : (Nat → RS)) => Q r u)) 0 0 := by
  refine met_of (cc := cX5_lead) (own := RX5) (nL := 6) (ret := (some .int)) (lv := [(0, .ref ((a 0) 50)), (1, .int v1), (2, .int v2), (3, .int v3)]) (by decide) rfl rfl (Nat.le_of_ble_eq_true rfl) rfl ?_
  intro x C hl hZ
  subst hl
  unfold fX5_lead at h
  refine r_aload_n C dX5_lead_0 rfl ?_
  refine r_iload_n C dX5_lead_1 rfl ?_
  refine callR_A C (run_V (As := [.int v1]) (rest := []) (ci := 5) C hZ.2.2 (tX5_lawOf _ g a sb lw st sp sd ss sy si lp pf N v1 _ h) gX5_lead_X5_lawOf rfl dsX5_lawOf rfl rfl ⟨(Nat.le_of_ble_eq_true rfl), (Nat.le_of_ble_eq_true rfl)⟩ rfl (List.mem_of_getElem? (i := 0) rfl) rfl (Nat.le_of_ble_eq_true rfl) dX5_lead_2 ⟨Nat.zero_le _, Nat.zero_le _⟩) (List.Sublist.refl _) (fun _ => rfl) (fun r1 _ h => ?_)
  cases r1 with
  | none =>
    have h := h.1 rfl
    show St x _ _ _ _ [.null] _
    refine r_astoreN (lv' := [(0, .ref ((a 0) 50)), (2, .int v2), (3, .int v3), (4, .null)]) C dX5_lead_5 [some 0, some 2, some 3, none] (by decide) rfl rfl ?_
    refine r_aloadN C dX5_lead_7 rfl ?_
    refine r_ifnullN (tgt := 30) C dX5_lead_9 (by decide) ?_
    refine r_iconst (v := (-1)) C dX5_lead_30 (by decide) ?_
    exact r_iret C hZ (u := pf) h rfl dX5_lead_31
  | some q2 =>
    have h := h.2 q2 rfl
    show St x _ _ _ _ [.ref q2] _
    refine r_astore (lv' := [(0, .ref ((a 0) 50)), (2, .int v2), (3, .int v3), (4, .ref q2)]) C dX5_lead_5 [some 0, some 2, some 3, none] (by decide) rfl rfl ?_
    refine r_aload C dX5_lead_7 rfl ?_
    refine r_ifnull C dX5_lead_9 ?_
    refine r_aload_n C dX5_lead_12 rfl ?_
    refine r_get (cn := RX5) (T := TX5) (N := 13) (ci := 5) C uwX5_lead_5 0 rfl rfl 6 (by decide) kwX5_lead_0 (v := .ref ((a 2) 50)) rfl dX5_lead_13 ?_
    refine r_iload_n C dX5_lead_16 rfl ?_
    refine callR_I C (run_V (As := [.int v2]) (rest := []) (ci := 2) C hZ.2.2 (tX2_has _ g (a 2) sp N v2 _ h) gX5_lead_X2_has rfl dsX2_has rfl rfl ⟨(Nat.le_of_ble_eq_true rfl), (Nat.le_of_ble_eq_true rfl)⟩ rfl (List.mem_of_getElem? (i := 5) rfl) rfl (Nat.le_of_ble_eq_true rfl) dX5_lead_17 ⟨Nat.zero_le _, Nat.zero_le _⟩) sl_p (fun _ => rfl) (fun r3 _ h => ?_)
    refine r_if_eq (tgt := 30) C dX5_lead_20 (by decide) (fun c4 => ?_) (fun c4 => ?_)
    · have h := h.1 c4
      refine r_iconst (v := (-1)) C dX5_lead_30 (by decide) ?_
      exact r_iret C hZ (u := pf) h rfl dX5_lead_31
    · have h := h.2 c4
      refine r_iload_n C dX5_lead_23 rfl ?_
      refine callR_I C (run_S (As := [.int v3]) (rest := []) C hZ.2.2 (tX5_isBit _ g N v3 _ h) gX5_lead_X5_isBit rfl dsX5_isBit rfl rfl ⟨(Nat.le_of_ble_eq_true rfl), (Nat.le_of_ble_eq_true rfl)⟩ rfl (Nat.le_of_ble_eq_true rfl) dX5_lead_24 ⟨Nat.zero_le _, Nat.zero_le _⟩) (List.nil_sublist _) (fun _ => rfl) (fun r5 _ h => ?_)
      refine r_if_ne (tgt := 32) C dX5_lead_27 (by decide) (fun c6 => ?_) (fun c6 => ?_)
      · have h := h.1 c6
        refine r_aload C dX5_lead_32 rfl ?_
        obtain ⟨hq7, h⟩ := h
        refine r_getP (X := sysX g a sb lw st sp sd ss sy si) (lp := lp) (pf := pf) C uwX5_lead_1 hq7 10 (by decide) kwX5_lead_2 (v := .int ((pf q2).1 10)) ⟨rfl, rfl⟩ dX5_lead_34 ?_
        refine r_iload_n C dX5_lead_37 rfl ?_
        refine callR_I C (run_S (As := [.int ((pf q2).1 10), .int v2]) (rest := []) C hZ.2.2 (tX5_isIn _ g N ((pf q2).1 10) v2 _ h) gX5_lead_X5_isIn rfl dsX5_isIn rfl rfl ⟨(Nat.le_of_ble_eq_true rfl), (Nat.le_of_ble_eq_true rfl)⟩ rfl (Nat.le_of_ble_eq_true rfl) dX5_lead_38 ⟨Nat.zero_le _, Nat.zero_le _⟩) (List.nil_sublist _) (fun _ => rfl) (fun r8 _ h => ?_)
        refine callR_I C (run_S (As := [.int r8]) (rest := []) C hZ.2.2 (tX5_bit _ g N r8 _ h) gX5_lead_X5_bit rfl dsX5_bit rfl rfl ⟨(Nat.le_of_ble_eq_true rfl), (Nat.le_of_ble_eq_true rfl)⟩ rfl (Nat.le_of_ble_eq_true rfl) dX5_lead_41 ⟨Nat.zero_le _, Nat.zero_le _⟩) (List.nil_sublist _) (fun _ => rfl) (fun r9 _ h => ?_)
        refine r_istore (lv' := [(2, .int v2), (3, .int v3), (4, .ref q2), (5, .int r9)]) C dX5_lead_44 [some 1, some 2, some 3, none] (by decide) rfl rfl ?_
        refine r_aload C dX5_lead_46 rfl ?_
        refine r_aload C dX5_lead_48 rfl ?_
        obtain ⟨hq10, h⟩ := h
        refine r_getP (X := sysX g a sb lw st sp sd ss sy si) (lp := lp) (pf := pf) C uwX5_lead_1 hq10 10 (by decide) kwX5_lead_2 (v := .int ((pf q2).1 10)) ⟨rfl, rfl⟩ dX5_lead_50 ?_
        refine r_iload_n C dX5_lead_53 rfl ?_
        refine r_iload_n C dX5_lead_54 rfl ?_
        refine callR_I C (run_S (As := [.int ((pf q2).1 10), .int v2, .int v3]) (rest := [.ref q2]) C hZ.2.2 (tX5_withBit _ g N ((pf q2).1 10) v2 v3 _ h) gX5_lead_X5_withBit rfl dsX5_withBit rfl rfl ⟨(Nat.le_of_ble_eq_true rfl), (Nat.le_of_ble_eq_true rfl)⟩ rfl (Nat.le_of_ble_eq_true rfl) dX5_lead_55 ⟨Nat.zero_le _, Nat.zero_le _⟩) (List.nil_sublist _) (fun _ => rfl) (fun r11 _ h => ?_)
        obtain ⟨hq12, h⟩ := h
        obtain ⟨pf13, hpf13⟩ : ∃ z : Nat → RS, z = up pf q2 (sI (pf q2) 10 r11) := ⟨_, rfl⟩
        have h := h pf13 hpf13
        refine r_putP (X := sysX g a sb lw st sp sd ss sy si) C uwX5_lead_1 hq12 10 (by decide) kwX5_lead_2 rfl rfl rfl (Nat.le_of_ble_eq_true rfl) rfl dX5_lead_58 ?_
        rw [← hpf13]
        show St x _ _ (sysW g a sb lw st sp sd ss sy si lp pf13) _ _ _
        refine r_iload C dX5_lead_61 rfl ?_
        exact r_iret C hZ (u := pf13) h rfl dX5_lead_63
      · have h := h.2 c6
        refine r_iconst (v := (-1)) C dX5_lead_30 (by decide) ?_
        exact r_iret C hZ (u := pf) h rfl dX5_lead_31
