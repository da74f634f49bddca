def rmX5_gaps : Room := { frames := 2, cells := 0, slots := 0, locals := 42 }
theorem kwX5_gaps_0 : Cond.fieldLink RX5 65 "WantsBench" "lawCount" "I" ∈ wsX5_gaps := by decide +kernel
theorem uwX5_gaps_5 : ∀ w ∈ wsX50, w ∈ wsX5_gaps := by decide +kernel
theorem kwX5_gaps_2 : Cond.fieldLink RX5 18 "WantsBench" "laws" "[LWantsBench$Law;" ∈ wsX5_gaps := by decide +kernel
theorem kwX5_gaps_3 : Cond.fieldLink RX5 98 "WantsBench$Law" "ledTo" "I" ∈ wsX5_gaps := by decide +kernel
theorem uwX5_gaps_1 : ∀ w ∈ wsX10, w ∈ wsX5_gaps := by decide +kernel
def fX5_gaps_13b (N : Nat) (sb : RS) (lw : Nat → Option Nat) (lp : List Nat) (pf : Nat → RS) (v1 : Int32) (v2 : Int32) (v3 : Int32) (R : Int32 → Int32 → Prop) (K : Int32 → Prop) (Q : Int32 → Prop) : Prop :=
  (((sb.1 2) ≤ v3 → K v2) ∧ (¬ (sb.1 2) ≤ v3 → (vp_in v3 20 ∧ (∃ q5 : Nat, lw v3.toNatClampNeg = some q5 ∧ (q5 ∈ lp ∧ (fX1_isKnown N (pf q5) v1 (fun r8 => ((r8 = 0 → (∀ x10 : Int32, x10 = v3 + 1 → R v2 x10)) ∧ (¬ r8 = 0 → (vp_in v3 20 ∧ (∃ q12 : Nat, lw v3.toNatClampNeg = some q12 ∧ (q12 ∈ lp ∧ ((¬ ((pf q12).1 10) = 0 → (∀ x16 : Int32, x16 = v3 + 1 → R v2 x16)) ∧ (((pf q12).1 10) = 0 → (∀ x17 : Int32, x17 = v2 ||| ((1 : Int32) <<< (v3 &&& 31)) → (∀ x18 : Int32, x18 = v3 + 1 → R x17 x18))))))))))))))))
set_option maxRecDepth 100000 in
set_option maxHeartbeats 4000000 in
theorem wfX5_gaps_13b {x : Nx} {g : Gx} {W0 : va_W} {a : Nat → Nat → Nat} {sb : RS} {lw : Nat → Option Nat} {st : RS} {sp : RS} {sd : RS} {ss : RS} {sy : RS} {si : Nat → Option Nat} {lp : List Nat} {pf : Nat → RS} {N : Nat} {v1 : Int32} {v2 : Int32} {v3 : Int32} {R : Int32 → Int32 → Prop} {K : Int32 → Prop} {Q : Int32 → Prop} (C : Cx x g cX5_gaps RX5 wsX5_gaps rmX5_gaps yX5_gaps (some .int) 4) (hZ : Zq x g W0 (fun _ : Unit => sysW g a sb lw st sp sd ss sy si lp pf) (qI (fun (r : Int32) (_ : Unit) => Q r)) 0 0) (hR : ∀ (w2 : Int32) (w3 : Int32), R w2 w3 → St x 0 0 (sysW g a sb lw st sp sd ss sy si lp pf) [(0, .ref ((a 0) 50)), (1, .int v1), (2, .int w2), (3, .int w3)] [] 13) (hK : ∀ (w2 : Int32), K w2 → St x 0 0 (sysW g a sb lw st sp sd ss sy si lp pf) [(2, .int w2)] [] 58) (h : fX5_gaps_13b N sb lw lp pf v1 v2 v3 R K Q) : St x 0 0 (sysW g a sb lw st sp sd ss sy si lp pf) [(0, .ref ((a 0) 50)), (1, .int v1), (2, .int v2), (3, .int v3)] [] 13 := by
  unfold fX5_gaps_13b at h
  refine r_iload_n C dX5_gaps_13 rfl ?_
  refine r_aload_n C dX5_gaps_14 rfl ?_
  refine r_get (cn := RX5) (T := TX5) (N := 13) (ci := 5) C uwX5_gaps_5 0 rfl rfl 2 (by decide) kwX5_gaps_0 (v := .int (sb.1 2)) rfl dX5_gaps_15 ?_
  refine r_icmp_ge (tgt := 58) C dX5_gaps_18 (by decide) (fun c3 => ?_) (fun c3 => ?_)
  · have h := h.1 c3
    refine r_sub [2] (lv' := [(2, .int v2)]) rfl ?_
    exact hK v2 h
  · have h := h.2 c3
    refine r_aload_n C dX5_gaps_21 rfl ?_
    refine r_get (cn := RX5) (T := TX5) (N := 13) (ci := 5) C uwX5_gaps_5 0 rfl rfl 1 (by decide) kwX5_gaps_2 (v := .ref ((a 0) 1)) rfl dX5_gaps_22 ?_
    refine r_iload_n C dX5_gaps_25 rfl ?_
    obtain ⟨hi4, h⟩ := h
    obtain ⟨q5, hq6, h⟩ := h
    refine r_aaldS C 1 rfl hi4 hq6 dX5_gaps_26 ?_
    refine r_iload_n C dX5_gaps_27 rfl ?_
    obtain ⟨hq7, h⟩ := h
    refine callR_I C (run_V (As := [.int v1]) (rest := []) (ci := 1) C hZ.2.2 (tX1_isKnown _ g q5 (pf q5) N v1 _ h) gX5_gaps_X1_isKnown rfl dsX1_isKnown rfl rfl ⟨(Nat.le_of_ble_eq_true rfl), (Nat.le_of_ble_eq_true rfl)⟩ rfl (List.mem_append_right _ (pl_mem hq7)) rfl (Nat.le_of_ble_eq_true rfl) dX5_gaps_28 ⟨Nat.zero_le _, Nat.zero_le _⟩) (slq hq7) (fun _ => rfl) (fun r8 _ h => ?_)
    refine r_if_eq (tgt := 52) C dX5_gaps_31 (by decide) (fun c9 => ?_) (fun c9 => ?_)
    · have h := h.1 c9
      obtain ⟨x10, ex10⟩ : ∃ z : Int32, z = v3 + 1 := ⟨_, rfl⟩
      have h := h x10 ex10
      refine r_iinc (v := x10) (lv' := [(0, .ref ((a 0) 50)), (1, .int v1), (2, .int v2), (3, .int x10)]) C dX5_gaps_52 rfl (by rw [ex10]; rfl) [some 0, some 1, some 2, none] (by decide) rfl rfl ?_
      refine r_goto (tgt := 13) C dX5_gaps_55 (by decide) ?_
      exact hR v2 x10 h
    · have h := h.2 c9
      refine r_aload_n C dX5_gaps_34 rfl ?_
      refine r_get (cn := RX5) (T := TX5) (N := 13) (ci := 5) C uwX5_gaps_5 0 rfl rfl 1 (by decide) kwX5_gaps_2 (v := .ref ((a 0) 1)) rfl dX5_gaps_35 ?_
      refine r_iload_n C dX5_gaps_38 rfl ?_
      obtain ⟨hi11, h⟩ := h
      obtain ⟨q12, hq13, h⟩ := h
      refine r_aaldS C 1 rfl hi11 hq13 dX5_gaps_39 ?_
      obtain ⟨hq14, h⟩ := h
      refine r_getP (X := sysX g a sb lw st sp sd ss sy si) (lp := lp) (pf := pf) C uwX5_gaps_1 hq14 10 (by decide) kwX5_gaps_3 (v := .int ((pf q12).1 10)) ⟨rfl, rfl⟩ dX5_gaps_40 ?_
      refine r_if_ne (tgt := 52) C dX5_gaps_43 (by decide) (fun c15 => ?_) (fun c15 => ?_)
      · have h := h.1 c15
        obtain ⟨x16, ex16⟩ : ∃ z : Int32, z = v3 + 1 := ⟨_, rfl⟩
        have h := h x16 ex16
        refine r_iinc (v := x16) (lv' := [(0, .ref ((a 0) 50)), (1, .int v1), (2, .int v2), (3, .int x16)]) C dX5_gaps_52 rfl (by rw [ex16]; rfl) [some 0, some 1, some 2, none] (by decide) rfl rfl ?_
        refine r_goto (tgt := 13) C dX5_gaps_55 (by decide) ?_
        exact hR v2 x16 h
      · have h := h.2 c15
        refine r_iload_n C dX5_gaps_46 rfl ?_
        refine r_iconst (v := 1) C dX5_gaps_47 (by decide) ?_
        refine r_iload_n C dX5_gaps_48 rfl ?_
        refine r_ishl C dX5_gaps_49 ?_
        refine r_ior C dX5_gaps_50 ?_
        refine r_topi (fun x17 ex17 => ?_)
        have h := h x17 ex17
        refine r_istore_n (lv' := [(0, .ref ((a 0) 50)), (1, .int v1), (2, .int x17), (3, .int v3)]) C dX5_gaps_51 [some 0, some 1, none, some 3] (by decide) rfl rfl ?_
        obtain ⟨x18, ex18⟩ : ∃ z : Int32, z = v3 + 1 := ⟨_, rfl⟩
        have h := h x18 ex18
        refine r_iinc (v := x18) (lv' := [(0, .ref ((a 0) 50)), (1, .int v1), (2, .int x17), (3, .int x18)]) C dX5_gaps_52 rfl (by rw [ex18]; rfl) [some 0, some 1, some 2, none] (by decide) rfl rfl ?_
        refine r_goto (tgt := 13) C dX5_gaps_55 (by decide) ?_
        exact hR x17 x18 h
def fX5_gaps_13 (N : Nat) (sb : RS) (lw : Nat → Option Nat) (lp : List Nat) (pf : Nat → RS) (v1 : Int32) (K : Int32 → Prop) (Q : Int32 → Prop) : Nat → Int32 → Int32 → Prop
  | 0, _, _ => False
  | n + 1, v2, v3 => fX5_gaps_13b N sb lw lp pf v1 v2 v3 (fun v2 v3 => fX5_gaps_13 N sb lw lp pf v1 K Q n v2 v3) K Q
set_option maxRecDepth 100000 in
set_option maxHeartbeats 4000000 in
theorem wfX5_gaps_13 {x : Nx} {g : Gx} {W0 : va_W} {a : Nat → Nat → Nat} {sb : RS} {lw : Nat → Option Nat} {st : RS} {sp : RS} {sd : RS} {ss : RS} {sy : RS} {si : Nat → Option Nat} {lp : List Nat} {pf : Nat → RS} {N : Nat} {v1 : Int32} {K : Int32 → Prop} {Q : Int32 → Prop} (C : Cx x g cX5_gaps RX5 wsX5_gaps rmX5_gaps yX5_gaps (some .int) 4) (hZ : Zq x g W0 (fun _ : Unit => sysW g a sb lw st sp sd ss sy si lp pf) (qI (fun (r : Int32) (_ : Unit) => Q r)) 0 0) (hK : ∀ (w2 : Int32), K w2 → St x 0 0 (sysW g a sb lw st sp sd ss sy si lp pf) [(2, .int w2)] [] 58) : ∀ (n : Nat) (v2 : Int32) (v3 : Int32), fX5_gaps_13 N sb lw lp pf v1 K Q n v2 v3 → St x 0 0 (sysW g a sb lw st sp sd ss sy si lp pf) [(0, .ref ((a 0) 50)), (1, .int v1), (2, .int v2), (3, .int v3)] [] 13 := by
  intro n
  induction n with
  | zero => intro v2 v3 h; exact False.elim h
  | succ n ih => intro v2 v3 h; exact wfX5_gaps_13b C hZ ih hK h
def fX5_gaps (N : Nat) (sb : RS) (lw : Nat → Option Nat) (lp : List Nat) (pf : Nat → RS) (v1 : Int32) (Q : Int32 → Prop) : Prop :=
  (fX5_isDay N v1 (fun r1 => ((¬ r1 = 0 → (fX5_gaps_13 N sb lw lp pf v1 (fun x19 => Q x19) Q N 0 0)) ∧ (r1 = 0 → Q (-1)))))
set_option maxRecDepth 100000 in
set_option maxHeartbeats 4000000 in
theorem tX5_gaps (l : Launch) (g : Gx) (a : Nat → Nat → Nat) (sb : RS) (lw : Nat → Option Nat) (st : RS) (sp : RS) (sd : RS) (ss : RS) (sy : RS) (si : Nat → Option Nat) (lp : List Nat) (pf : Nat → RS) (N : Nat) (v1 : Int32) (Q : Int32 → Prop) (h : fX5_gaps N sb lw lp pf v1 Q) : MetG l g yX5_gaps wsX5_gaps rmX5_gaps [.ref ((a 0) 50), .int v1] (sysW g a sb lw st sp sd ss sy si lp pf) (fun _ : Unit => sysW g a sb lw st sp sd ss sy si lp pf) (qI (fun (r : Int32) (_ : Unit) => Q r)) 0 0 := by
  refine met_of (cc := cX5_gaps) (own := RX5) (nL := 4) (ret := (some .int)) (lv := [(0, .ref ((a 0) 50)), (1, .int v1)]) (by decide) rfl rfl (Nat.le_of_ble_eq_true rfl) rfl ?_
  intro x C hl hZ
  subst hl
  unfold fX5_gaps at h
  refine r_iload_n C dX5_gaps_0 rfl ?_
  refine callR_I C (run_S (As := [.int v1]) (rest := []) C hZ.2.2 (tX5_isDay _ g N v1 _ h) gX5_gaps_X5_isDay rfl dsX5_isDay rfl rfl ⟨(Nat.le_of_ble_eq_true rfl), (Nat.le_of_ble_eq_true rfl)⟩ rfl (Nat.le_of_ble_eq_true rfl) dX5_gaps_1 ⟨Nat.zero_le _, Nat.zero_le _⟩) (List.nil_sublist _) (fun _ => rfl) (fun r1 _ h => ?_)
  refine r_if_ne (tgt := 9) C dX5_gaps_4 (by decide) (fun c2 => ?_) (fun c2 => ?_)
  · have h := h.1 c2
    refine r_iconst (v := 0) C dX5_gaps_9 (by decide) ?_
    refine r_istore_n (lv' := [(0, .ref ((a 0) 50)), (1, .int v1), (2, .int 0)]) C dX5_gaps_10 [some 0, some 1, none] (by decide) rfl rfl ?_
    refine r_iconst (v := 0) C dX5_gaps_11 (by decide) ?_
    refine r_istore_n (lv' := [(0, .ref ((a 0) 50)), (1, .int v1), (2, .int 0), (3, .int 0)]) C dX5_gaps_12 [some 0, some 1, some 2, none] (by decide) rfl rfl ?_
    refine wfX5_gaps_13 C hZ (fun x19 h => ?_) N _ _ h
    refine r_iload_n C dX5_gaps_58 rfl ?_
    exact r_iret C hZ (u := ()) h rfl dX5_gaps_59
  · have h := h.2 c2
    refine r_iconst (v := (-1)) C dX5_gaps_7 (by decide) ?_
    exact r_iret C hZ (u := ()) h rfl dX5_gaps_8
def rmX5_bare : Room := { frames := 2, cells := 0, slots := 0, locals := 44 }
theorem kwX5_bare_0 : Cond.fieldLink RX5 65 "WantsBench" "lawCount" "I" ∈ wsX5_bare := by decide +kernel
theorem uwX5_bare_5 : ∀ w ∈ wsX50, w ∈ wsX5_bare := by decide +kernel
theorem kwX5_bare_2 : Cond.fieldLink RX5 18 "WantsBench" "laws" "[LWantsBench$Law;" ∈ wsX5_bare := by decide +kernel
theorem kwX5_bare_3 : Cond.fieldLink RX5 98 "WantsBench$Law" "ledTo" "I" ∈ wsX5_bare := by decide +kernel
theorem uwX5_bare_1 : ∀ w ∈ wsX10, w ∈ wsX5_bare := by decide +kernel
theorem kwX5_bare_5 : Cond.fieldLink RX5 29 "WantsBench" "parts" "LWantsBench$Parts;" ∈ wsX5_bare := by decide +kernel
def fX5_bare_13b (N : Nat) (sb : RS) (lw : Nat → Option Nat) (sp : RS) (lp : List Nat) (pf : Nat → RS) (v1 : Int32) (v2 : Int32) (v3 : Int32) (R : Int32 → Int32 → Prop) (K : Int32 → Prop) (Q : Int32 → Prop) : Prop :=
  (((sb.1 2) ≤ v3 → K v2) ∧ (¬ (sb.1 2) ≤ v3 → (vp_in v3 20 ∧ (∃ q5 : Nat, lw v3.toNatClampNeg = some q5 ∧ (q5 ∈ lp ∧ (fX1_isKnown N (pf q5) v1 (fun r8 => ((r8 = 0 → (∀ x10 : Int32, x10 = v3 + 1 → R v2 x10)) ∧ (¬ r8 = 0 → (vp_in v3 20 ∧ (∃ q12 : Nat, lw v3.toNatClampNeg = some q12 ∧ (q12 ∈ lp ∧ (∀ x15 : Int32, x15 = v2 ||| ((pf q12).1 10) → (∀ x16 : Int32, x16 = v3 + 1 → R x15 x16))))))))))))))
set_option maxRecDepth 100000 in
set_option maxHeartbeats 4000000 in
theorem wfX5_bare_13b {x : Nx} {g : Gx} {W0 : va_W} {a : Nat → Nat → Nat} {sb : RS} {lw : Nat → Option Nat} {st : RS} {sp : RS} {sd : RS} {ss : RS} {sy : RS} {si : Nat → Option Nat} {lp : List Nat} {pf : Nat → RS} {N : Nat} {v1 : Int32} {v2 : Int32} {v3 : Int32} {R : Int32 → Int32 → Prop} {K : Int32 → Prop} {Q : Int32 → Prop} (C : Cx x g cX5_bare RX5 wsX5_bare rmX5_bare yX5_bare (some .int) 4) (hZ : Zq x g W0 (fun _ : Unit => sysW g a sb lw st sp sd ss sy si lp pf) (qI (fun (r : Int32) (_ : Unit) => Q r)) 0 0) (hR : ∀ (w2 : Int32) (w3 : Int32), R w2 w3 → St x 0 0 (sysW g a sb lw st sp sd ss sy si lp pf) [(0, .ref ((a 0) 50)), (1, .int v1), (2, .int w2), (3, .int w3)] [] 13) (hK : ∀ (w2 : Int32), K w2 → St x 0 0 (sysW g a sb lw st sp sd ss sy si lp pf) [(0, .ref ((a 0) 50)), (2, .int w2)] [] 52) (h : fX5_bare_13b N sb lw sp lp pf v1 v2 v3 R K Q) : St x 0 0 (sysW g a sb lw st sp sd ss sy si lp pf) [(0, .ref ((a 0) 50)), (1, .int v1), (2, .int v2), (3, .int v3)] [] 13 := by
  unfold fX5_bare_13b at h
  refine r_iload_n C dX5_bare_13 rfl ?_
  refine r_aload_n C dX5_bare_14 rfl ?_
  refine r_get (cn := RX5) (T := TX5) (N := 13) (ci := 5) C uwX5_bare_5 0 rfl rfl 2 (by decide) kwX5_bare_0 (v := .int (sb.1 2)) rfl dX5_bare_15 ?_
  refine r_icmp_ge (tgt := 52) C dX5_bare_18 (by decide) (fun c3 => ?_) (fun c3 => ?_)
  · have h := h.1 c3
    refine r_sub [0, 2] (lv' := [(0, .ref ((a 0) 50)), (2, .int v2)]) rfl ?_
    exact hK v2 h
  · have h := h.2 c3
    refine r_aload_n C dX5_bare_21 rfl ?_
    refine r_get (cn := RX5) (T := TX5) (N := 13) (ci := 5) C uwX5_bare_5 0 rfl rfl 1 (by decide) kwX5_bare_2 (v := .ref ((a 0) 1)) rfl dX5_bare_22 ?_
    refine r_iload_n C dX5_bare_25 rfl ?_
    obtain ⟨hi4, h⟩ := h
    obtain ⟨q5, hq6, h⟩ := h
    refine r_aaldS C 1 rfl hi4 hq6 dX5_bare_26 ?_
    refine r_iload_n C dX5_bare_27 rfl ?_
    obtain ⟨hq7, h⟩ := h
    refine callR_I C (run_V (As := [.int v1]) (rest := []) (ci := 1) C hZ.2.2 (tX1_isKnown _ g q5 (pf q5) N v1 _ h) gX5_bare_X1_isKnown rfl dsX1_isKnown rfl rfl ⟨(Nat.le_of_ble_eq_true rfl), (Nat.le_of_ble_eq_true rfl)⟩ rfl (List.mem_append_right _ (pl_mem hq7)) rfl (Nat.le_of_ble_eq_true rfl) dX5_bare_28 ⟨Nat.zero_le _, Nat.zero_le _⟩) (slq hq7) (fun _ => rfl) (fun r8 _ h => ?_)
    refine r_if_eq (tgt := 46) C dX5_bare_31 (by decide) (fun c9 => ?_) (fun c9 => ?_)
    · have h := h.1 c9
      obtain ⟨x10, ex10⟩ : ∃ z : Int32, z = v3 + 1 := ⟨_, rfl⟩
      have h := h x10 ex10
      refine r_iinc (v := x10) (lv' := [(0, .ref ((a 0) 50)), (1, .int v1), (2, .int v2), (3, .int x10)]) C dX5_bare_46 rfl (by rw [ex10]; rfl) [some 0, some 1, some 2, none] (by decide) rfl rfl ?_
      refine r_goto (tgt := 13) C dX5_bare_49 (by decide) ?_
      exact hR v2 x10 h
    · have h := h.2 c9
      refine r_iload_n C dX5_bare_34 rfl ?_
      refine r_aload_n C dX5_bare_35 rfl ?_
      refine r_get (cn := RX5) (T := TX5) (N := 13) (ci := 5) C uwX5_bare_5 0 rfl rfl 1 (by decide) kwX5_bare_2 (v := .ref ((a 0) 1)) rfl dX5_bare_36 ?_
      refine r_iload_n C dX5_bare_39 rfl ?_
      obtain ⟨hi11, h⟩ := h
      obtain ⟨q12, hq13, h⟩ := h
      refine r_aaldS C 1 rfl hi11 hq13 dX5_bare_40 ?_
      obtain ⟨hq14, h⟩ := h
      refine r_getP (X := sysX g a sb lw st sp sd ss sy si) (lp := lp) (pf := pf) C uwX5_bare_1 hq14 10 (by decide) kwX5_bare_3 (v := .int ((pf q12).1 10)) ⟨rfl, rfl⟩ dX5_bare_41 ?_
      refine r_ior C dX5_bare_44 ?_
      refine r_topi (fun x15 ex15 => ?_)
      have h := h x15 ex15
      refine r_istore_n (lv' := [(0, .ref ((a 0) 50)), (1, .int v1), (2, .int x15), (3, .int v3)]) C dX5_bare_45 [some 0, some 1, none, some 3] (by decide) rfl rfl ?_
      obtain ⟨x16, ex16⟩ : ∃ z : Int32, z = v3 + 1 := ⟨_, rfl⟩
      have h := h x16 ex16
      refine r_iinc (v := x16) (lv' := [(0, .ref ((a 0) 50)), (1, .int v1), (2, .int x15), (3, .int x16)]) C dX5_bare_46 rfl (by rw [ex16]; rfl) [some 0, some 1, some 2, none] (by decide) rfl rfl ?_
      refine r_goto (tgt := 13) C dX5_bare_49 (by decide) ?_
      exact hR x15 x16 h
def fX5_bare_13 (N : Nat) (sb : RS) (lw : Nat → Option Nat) (sp : RS) (lp : List Nat) (pf : Nat → RS) (v1 : Int32) (K : Int32 → Prop) (Q : Int32 → Prop) : Nat → Int32 → Int32 → Prop
  | 0, _, _ => False
  | n + 1, v2, v3 => fX5_bare_13b N sb lw sp lp pf v1 v2 v3 (fun v2 v3 => fX5_bare_13 N sb lw sp lp pf v1 K Q n v2 v3) K Q
set_option maxRecDepth 100000 in
set_option maxHeartbeats 4000000 in
theorem wfX5_bare_13 {x : Nx} {g : Gx} {W0 : va_W} {a : Nat → Nat → Nat} {sb : RS} {lw : Nat → Option Nat} {st : RS} {sp : RS} {sd : RS} {ss : RS} {sy : RS} {si : Nat → Option Nat} {lp : List Nat} {pf : Nat → RS} {N : Nat} {v1 : Int32} {K : Int32 → Prop} {Q : Int32 → Prop} (C : Cx x g cX5_bare RX5 wsX5_bare rmX5_bare yX5_bare (some .int) 4) (hZ : Zq x g W0 (fun _ : Unit => sysW g a sb lw st sp sd ss sy si lp pf) (qI (fun (r : Int32) (_ : Unit) => Q r)) 0 0) (hK : ∀ (w2 : Int32), K w2 → St x 0 0 (sysW g a sb lw st sp sd ss sy si lp pf) [(0, .ref ((a 0) 50)), (2, .int w2)] [] 52) : ∀ (n : Nat) (v2 : Int32) (v3 : Int32), fX5_bare_13 N sb lw sp lp pf v1 K Q n v2 v3 → St x 0 0 (sysW g a sb lw st sp sd ss sy si lp pf) [(0, .ref ((a 0) 50)), (1, .int v1), (2, .int v2), (3, .int v3)] [] 13 := by
  intro n
  induction n with
  | zero => intro v2 v3 h; exact False.elim h
  | succ n ih => intro v2 v3 h; exact wfX5_bare_13b C hZ ih hK h
def fX5_bare (N : Nat) (sb : RS) (lw : Nat → Option Nat) (sp : RS) (lp : List Nat) (pf : Nat → RS) (v1 : Int32) (Q : Int32 → Prop) : Prop :=
  (fX5_isDay N v1 (fun r1 => ((¬ r1 = 0 → (fX5_bare_13 N sb lw sp lp pf v1 (fun x17 => (fX2_all N sp (fun r18 => (fX2_withUsed N sp x17 (fun r19 => Q (r18 &&& (r19 ^^^ (-1 : Int32)))))))) Q N 0 0)) ∧ (r1 = 0 → Q (-1)))))
set_option maxRecDepth 100000 in
set_option maxHeartbeats 4000000 in
theorem tX5_bare (l : Launch) (g : Gx) (a : Nat → Nat → Nat) (sb : RS) (lw : Nat → Option Nat) (st : RS) (sp : RS) (sd : RS) (ss : RS) (sy : RS) (si : Nat → Option Nat) (lp : List Nat) (pf : Nat → RS) (N : Nat) (v1 : Int32) (Q : Int32 → Prop) (h : fX5_bare N sb lw sp lp pf v1 Q) : MetG l g yX5_bare wsX5_bare rmX5_bare [.ref ((a 0) 50), .int v1] (sysW g a sb lw st sp sd ss sy si lp pf) (fun _ : Unit => sysW g a sb lw st sp sd ss sy si lp pf) (qI (fun (r : Int32) (_ : Unit) => Q r)) 0 0 := by
  refine met_of (cc := cX5_bare) (own := RX5) (nL := 4) (ret := (some .int)) (lv := [(0, .ref ((a 0) 50)), (1, .int v1)]) (by decide) rfl rfl (Nat.le_of_ble_eq_true rfl) rfl ?_
  intro x C hl hZ
  subst hl
  unfold fX5_bare at h
  refine r_iload_n C dX5_bare_0 rfl ?_
  refine callR_I C (run_S (As := [.int v1]) (rest := []) C hZ.2.2 (tX5_isDay _ g N v1 _ h) gX5_bare_X5_isDay rfl dsX5_isDay rfl rfl ⟨(Nat.le_of_ble_eq_true rfl), (Nat.le_of_ble_eq_true rfl)⟩ rfl (Nat.le_of_ble_eq_true rfl) dX5_bare_1 ⟨Nat.zero_le _, Nat.zero_le _⟩) (List.nil_sublist _) (fun _ => rfl) (fun r1 _ h => ?_)
  refine r_if_ne (tgt := 9) C dX5_bare_4 (by decide) (fun c2 => ?_) (fun c2 => ?_)
  · have h := h.1 c2
    refine r_iconst (v := 0) C dX5_bare_9 (by decide) ?_
    refine r_istore_n (lv' := [(0, .ref ((a 0) 50)), (1, .int v1), (2, .int 0)]) C dX5_bare_10 [some 0, some 1, none] (by decide) rfl rfl ?_
    refine r_iconst (v := 0) C dX5_bare_11 (by decide) ?_
    refine r_istore_n (lv' := [(0, .ref ((a 0) 50)), (1, .int v1), (2, .int 0), (3, .int 0)]) C dX5_bare_12 [some 0, some 1, some 2, none] (by decide) rfl rfl ?_
    refine wfX5_bare_13 C hZ (fun x17 h => ?_) N _ _ h
    refine r_aload_n C dX5_bare_52 rfl ?_
    refine r_get (cn := RX5) (T := TX5) (N := 13) (ci := 5) C uwX5_bare_5 0 rfl rfl 6 (by decide) kwX5_bare_5 (v := .ref ((a 2) 50)) rfl dX5_bare_53 ?_
    refine callR_I C (run_V (As := []) (rest := []) (ci := 2) C hZ.2.2 (tX2_all _ g (a 2) sp N _ h) gX5_bare_X2_all rfl dsX2_all rfl rfl ⟨(Nat.le_of_ble_eq_true rfl), (Nat.le_of_ble_eq_true rfl)⟩ rfl (List.mem_of_getElem? (i := 5) rfl) rfl (Nat.le_of_ble_eq_true rfl) dX5_bare_56 ⟨Nat.zero_le _, Nat.zero_le _⟩) sl_p (fun _ => rfl) (fun r18 _ h => ?_)
    refine r_aload_n C dX5_bare_59 rfl ?_
    refine r_get (cn := RX5) (T := TX5) (N := 13) (ci := 5) C uwX5_bare_5 0 rfl rfl 6 (by decide) kwX5_bare_5 (v := .ref ((a 2) 50)) rfl dX5_bare_60 ?_
    refine r_iload_n C dX5_bare_63 rfl ?_
    refine callR_I C (run_V (As := [.int x17]) (rest := [.int r18]) (ci := 2) C hZ.2.2 (tX2_withUsed _ g (a 2) sp N x17 _ h) gX5_bare_X2_withUsed rfl dsX2_withUsed rfl rfl ⟨(Nat.le_of_ble_eq_true rfl), (Nat.le_of_ble_eq_true rfl)⟩ rfl (List.mem_of_getElem? (i := 5) rfl) rfl (Nat.le_of_ble_eq_true rfl) dX5_bare_64 ⟨Nat.zero_le _, Nat.zero_le _⟩) sl_p (fun _ => rfl) (fun r19 _ h => ?_)
    refine r_iconst (v := (-1)) C dX5_bare_67 (by decide) ?_
    refine r_ixor C dX5_bare_68 ?_
    refine r_iand C dX5_bare_69 ?_
    exact r_iret C hZ (u := ()) h rfl dX5_bare_70
  · have h := h.2 c2
    refine r_iconst (v := (-1)) C dX5_bare_7 (by decide) ?_
    exact r_iret C hZ (u := ()) h rfl dX5_bare_8
def rmX5_reach : Room := { frames := 2, cells := 0, slots := 0, locals := 43 }
theorem kwX5_reach_0 : Cond.fieldLink RX5 29 "WantsBench" "parts" "LWantsBench$Parts;" ∈ wsX5_reach := by decide +kernel
theorem uwX5_reach_5 : ∀ w ∈ wsX50, w ∈ wsX5_reach := by decide +kernel
theorem kwX5_reach_2 : Cond.fieldLink RX5 98 "WantsBench$Law" "ledTo" "I" ∈ wsX5_reach := by decide +kernel
theorem uwX5_reach_1 : ∀ w ∈ wsX10, w ∈ wsX5_reach := by decide +kernel
def fX5_reach (N : Nat) (sb : RS) (lw : Nat → Option Nat) (sp : RS) (lp : List Nat) (pf : Nat → RS) (v1 : Int32) (Q : Int32 → Prop) : Prop :=
  (fX5_lawOf N sb lw v1 (fun r1 => ((r1 = none → Q (-1)) ∧ (∀ q2 : Nat, r1 = some q2 → (q2 ∈ lp ∧ (fX2_withUsers N sp ((pf q2).1 10) (fun r4 => Q r4)))))))
set_option maxRecDepth 100000 in
set_option maxHeartbeats 4000000 in
theorem tX5_reach (l : Launch) (g : Gx) (a : Nat → Nat → Nat) (sb : RS) (lw : Nat → Option Nat) (st : RS) (sp : RS) (sd : RS) (ss : RS) (sy : RS) (si : Nat → Option Nat) (lp : List Nat) (pf : Nat → RS) (N : Nat) (v1 : Int32) (Q : Int32 → Prop) (h : fX5_reach N sb lw sp lp pf v1 Q) : MetG l g yX5_reach wsX5_reach rmX5_reach [.ref ((a 0) 50), .int v1] (sysW g a sb lw st sp sd ss sy si lp pf) (fun _ : Unit => sysW g a sb lw st sp sd ss sy si lp pf) (qI (fun (r : Int32) (_ : Unit) => Q r)) 0 0 := by
  refine met_of (cc := cX5_reach) (own := RX5) (nL := 3) (ret := (some .int)) (lv := [(0, .ref ((a 0) 50)), (1, .int v1)]) (by decide) rfl rfl (Nat.le_of_ble_eq_true rfl) rfl ?_
  intro x C hl hZ
  subst hl
  unfold fX5_reach at h
  refine r_aload_n C dX5_reach_0 rfl ?_
  refine r_iload_n C dX5_reach_1 rfl ?_
  refine callR_A C (run_V (As := [.int v1]) (rest := []) (ci := 5) C hZ.2.2 (tX5_lawOf _ g a sb lw st sp sd ss sy si lp pf N v1 _ h) gX5_reach_X5_lawOf rfl dsX5_lawOf rfl rfl ⟨(Nat.le_of_ble_eq_true rfl), (Nat.le_of_ble_eq_true rfl)⟩ rfl (List.mem_of_getElem? (i := 0) rfl) rfl (Nat.le_of_ble_eq_true rfl) dX5_reach_2 ⟨Nat.zero_le _, Nat.zero_le _⟩) (List.Sublist.refl _) (fun _ => rfl) (fun r1 _ h => ?_)
  cases r1 with
  | none =>
    have h := h.1 rfl
    show St x _ _ _ _ [.null] _
    refine r_astore_nN (lv' := [(0, .ref ((a 0) 50)), (2, .null)]) C dX5_reach_5 [some 0, none] (by decide) rfl rfl ?_
    refine r_aload_nN C dX5_reach_6 rfl ?_
    refine r_ifnonnullN C dX5_reach_7 ?_
    refine r_iconst (v := (-1)) C dX5_reach_10 (by decide) ?_
    refine r_goto (tgt := 25) C dX5_reach_11 (by decide) ?_
    exact r_iret C hZ (u := ()) h rfl dX5_reach_25
  | some q2 =>
    have h := h.2 q2 rfl
    show St x _ _ _ _ [.ref q2] _
    refine r_astore_n (lv' := [(0, .ref ((a 0) 50)), (2, .ref q2)]) C dX5_reach_5 [some 0, none] (by decide) rfl rfl ?_
    refine r_aload_n C dX5_reach_6 rfl ?_
    refine r_ifnonnull (tgt := 14) C dX5_reach_7 (by decide) ?_
    refine r_aload_n C dX5_reach_14 rfl ?_
    refine r_get (cn := RX5) (T := TX5) (N := 13) (ci := 5) C uwX5_reach_5 0 rfl rfl 6 (by decide) kwX5_reach_0 (v := .ref ((a 2) 50)) rfl dX5_reach_15 ?_
    refine r_aload_n C dX5_reach_18 rfl ?_
    obtain ⟨hq3, h⟩ := h
    refine r_getP (X := sysX g a sb lw st sp sd ss sy si) (lp := lp) (pf := pf) C uwX5_reach_1 hq3 10 (by decide) kwX5_reach_2 (v := .int ((pf q2).1 10)) ⟨rfl, rfl⟩ dX5_reach_19 ?_
    refine callR_I C (run_V (As := [.int ((pf q2).1 10)]) (rest := []) (ci := 2) C hZ.2.2 (tX2_withUsers _ g (a 2) sp N ((pf q2).1 10) _ h) gX5_reach_X2_withUsers rfl dsX2_withUsers rfl rfl ⟨(Nat.le_of_ble_eq_true rfl), (Nat.le_of_ble_eq_true rfl)⟩ rfl (List.mem_of_getElem? (i := 5) rfl) rfl (Nat.le_of_ble_eq_true rfl) dX5_reach_22 ⟨Nat.zero_le _, Nat.zero_le _⟩) sl_p (fun _ => rfl) (fun r4 _ h => ?_)
    exact r_iret C hZ (u := ()) h rfl dX5_reach_25
def rmX5_wants : Room := { frames := 2, cells := 0, slots := 0, locals := 42 }
theorem kwX5_wants_0 : Cond.fieldLink RX5 29 "WantsBench" "parts" "LWantsBench$Parts;" ∈ wsX5_wants := by decide +kernel
theorem uwX5_wants_5 : ∀ w ∈ wsX50, w ∈ wsX5_wants := by decide +kernel
theorem kwX5_wants_2 : Cond.fieldLink RX5 65 "WantsBench" "lawCount" "I" ∈ wsX5_wants := by decide +kernel
theorem kwX5_wants_3 : Cond.fieldLink RX5 18 "WantsBench" "laws" "[LWantsBench$Law;" ∈ wsX5_wants := by decide +kernel
theorem kwX5_wants_4 : Cond.fieldLink RX5 98 "WantsBench$Law" "ledTo" "I" ∈ wsX5_wants := by decide +kernel
theorem uwX5_wants_1 : ∀ w ∈ wsX10, w ∈ wsX5_wants := by decide +kernel
def fX5_wants_25b (N : Nat) (sb : RS) (lw : Nat → Option Nat) (sp : RS) (lp : List Nat) (pf : Nat → RS) (v1 : Int32) (v2 : Int32) (v3 : Int32) (v4 : Int32) (R : Int32 → Int32 → Prop) (K : Int32 → Prop) (Q : Int32 → Prop) : Prop :=
  (((sb.1 2) ≤ v4 → K v3) ∧ (¬ (sb.1 2) ≤ v4 → (vp_in v4 20 ∧ (∃ q7 : Nat, lw v4.toNatClampNeg = some q7 ∧ (q7 ∈ lp ∧ (fX1_isKnown N (pf q7) v2 (fun r10 => ((r10 = 0 → (∀ x12 : Int32, x12 = v4 + 1 → R v3 x12)) ∧ (¬ r10 = 0 → (vp_in v4 20 ∧ (∃ q14 : Nat, lw v4.toNatClampNeg = some q14 ∧ (q14 ∈ lp ∧ (fX2_withUsers N sp ((pf q14).1 10) (fun r17 => (fX5_isIn N r17 v1 (fun r18 => ((r18 = 0 → (∀ x20 : Int32, x20 = v4 + 1 → R v3 x20)) ∧ (¬ r18 = 0 → (∀ x21 : Int32, x21 = v3 ||| ((1 : Int32) <<< (v4 &&& 31)) → (∀ x22 : Int32, x22 = v4 + 1 → R x21 x22))))))))))))))))))))
set_option maxRecDepth 100000 in
set_option maxHeartbeats 4000000 in
theorem wfX5_wants_25b {x : Nx} {g : Gx} {W0 : va_W} {a : Nat → Nat → Nat} {sb : RS} {lw : Nat → Option Nat} {st : RS} {sp : RS} {sd : RS} {ss : RS} {sy : RS} {si : Nat → Option Nat} {lp : List Nat} {pf : Nat → RS} {N : Nat} {v1 : Int32} {v2 : Int32} {v3 : Int32} {v4 : Int32} {R : Int32 → Int32 → Prop} {K : Int32 → Prop} {Q : Int32 → Prop} (C : Cx x g cX5_wants RX5 wsX5_wants rmX5_wants yX5_wants (some .int) 5) (hZ : Zq x g W0 (fun _ : Unit => sysW g a sb lw st sp sd ss sy si lp pf) (qI (fun (r : Int32) (_ : Unit) => Q r)) 0 0) (hR : ∀ (w3 : Int32) (w4 : Int32), R w3 w4 → St x 0 0 (sysW g a sb lw st sp sd ss sy si lp pf) [(0, .ref ((a 0) 50)), (1, .int v1), (2, .int v2), (3, .int w3), (4, .int w4)] [] 25) (hK : ∀ (w3 : Int32), K w3 → St x 0 0 (sysW g a sb lw st sp sd ss sy si lp pf) [(3, .int w3)] [] 85) (h : fX5_wants_25b N sb lw sp lp pf v1 v2 v3 v4 R K Q) : St x 0 0 (sysW g a sb lw st sp sd ss sy si lp pf) [(0, .ref ((a 0) 50)), (1, .int v1), (2, .int v2), (3, .int v3), (4, .int v4)] [] 25 := by
  unfold fX5_wants_25b at h
  refine r_iload C dX5_wants_25 rfl ?_
  refine r_aload_n C dX5_wants_27 rfl ?_
  refine r_get (cn := RX5) (T := TX5) (N := 13) (ci := 5) C uwX5_wants_5 0 rfl rfl 2 (by decide) kwX5_wants_2 (v := .int (sb.1 2)) rfl dX5_wants_28 ?_
  refine r_icmp_ge (tgt := 85) C dX5_wants_31 (by decide) (fun c5 => ?_) (fun c5 => ?_)
  · have h := h.1 c5
    refine r_sub [3] (lv' := [(3, .int v3)]) rfl ?_
    exact hK v3 h
  · have h := h.2 c5
    refine r_aload_n C dX5_wants_34 rfl ?_
    refine r_get (cn := RX5) (T := TX5) (N := 13) (ci := 5) C uwX5_wants_5 0 rfl rfl 1 (by decide) kwX5_wants_3 (v := .ref ((a 0) 1)) rfl dX5_wants_35 ?_
    refine r_iload C dX5_wants_38 rfl ?_
    obtain ⟨hi6, h⟩ := h
    obtain ⟨q7, hq8, h⟩ := h
    refine r_aaldS C 1 rfl hi6 hq8 dX5_wants_40 ?_
    refine r_iload_n C dX5_wants_41 rfl ?_
    obtain ⟨hq9, h⟩ := h
    refine callR_I C (run_V (As := [.int v2]) (rest := []) (ci := 1) C hZ.2.2 (tX1_isKnown _ g q7 (pf q7) N v2 _ h) gX5_wants_X1_isKnown rfl dsX1_isKnown rfl rfl ⟨(Nat.le_of_ble_eq_true rfl), (Nat.le_of_ble_eq_true rfl)⟩ rfl (List.mem_append_right _ (pl_mem hq9)) rfl (Nat.le_of_ble_eq_true rfl) dX5_wants_42 ⟨Nat.zero_le _, Nat.zero_le _⟩) (slq hq9) (fun _ => rfl) (fun r10 _ h => ?_)
    refine r_if_eq (tgt := 79) C dX5_wants_45 (by decide) (fun c11 => ?_) (fun c11 => ?_)
    · have h := h.1 c11
      obtain ⟨x12, ex12⟩ : ∃ z : Int32, z = v4 + 1 := ⟨_, rfl⟩
      have h := h x12 ex12
      refine r_iinc (v := x12) (lv' := [(0, .ref ((a 0) 50)), (1, .int v1), (2, .int v2), (3, .int v3), (4, .int x12)]) C dX5_wants_79 rfl (by rw [ex12]; rfl) [some 0, some 1, some 2, some 3, none] (by decide) rfl rfl ?_
      refine r_goto (tgt := 25) C dX5_wants_82 (by decide) ?_
      exact hR v3 x12 h
    · have h := h.2 c11
      refine r_aload_n C dX5_wants_48 rfl ?_
      refine r_get (cn := RX5) (T := TX5) (N := 13) (ci := 5) C uwX5_wants_5 0 rfl rfl 6 (by decide) kwX5_wants_0 (v := .ref ((a 2) 50)) rfl dX5_wants_49 ?_
      refine r_aload_n C dX5_wants_52 rfl ?_
      refine r_get (cn := RX5) (T := TX5) (N := 13) (ci := 5) C uwX5_wants_5 0 rfl rfl 1 (by decide) kwX5_wants_3 (v := .ref ((a 0) 1)) rfl dX5_wants_53 ?_
      refine r_iload C dX5_wants_56 rfl ?_
      obtain ⟨hi13, h⟩ := h
      obtain ⟨q14, hq15, h⟩ := h
      refine r_aaldS C 1 rfl hi13 hq15 dX5_wants_58 ?_
      obtain ⟨hq16, h⟩ := h
      refine r_getP (X := sysX g a sb lw st sp sd ss sy si) (lp := lp) (pf := pf) C uwX5_wants_1 hq16 10 (by decide) kwX5_wants_4 (v := .int ((pf q14).1 10)) ⟨rfl, rfl⟩ dX5_wants_59 ?_
      refine callR_I C (run_V (As := [.int ((pf q14).1 10)]) (rest := []) (ci := 2) C hZ.2.2 (tX2_withUsers _ g (a 2) sp N ((pf q14).1 10) _ h) gX5_wants_X2_withUsers rfl dsX2_withUsers rfl rfl ⟨(Nat.le_of_ble_eq_true rfl), (Nat.le_of_ble_eq_true rfl)⟩ rfl (List.mem_of_getElem? (i := 5) rfl) rfl (Nat.le_of_ble_eq_true rfl) dX5_wants_62 ⟨Nat.zero_le _, Nat.zero_le _⟩) sl_p (fun _ => rfl) (fun r17 _ h => ?_)
      refine r_iload_n C dX5_wants_65 rfl ?_
      refine callR_I C (run_S (As := [.int r17, .int v1]) (rest := []) C hZ.2.2 (tX5_isIn _ g N r17 v1 _ h) gX5_wants_X5_isIn rfl dsX5_isIn rfl rfl ⟨(Nat.le_of_ble_eq_true rfl), (Nat.le_of_ble_eq_true rfl)⟩ rfl (Nat.le_of_ble_eq_true rfl) dX5_wants_66 ⟨Nat.zero_le _, Nat.zero_le _⟩) (List.nil_sublist _) (fun _ => rfl) (fun r18 _ h => ?_)
      refine r_if_eq (tgt := 79) C dX5_wants_69 (by decide) (fun c19 => ?_) (fun c19 => ?_)
      · have h := h.1 c19
        obtain ⟨x20, ex20⟩ : ∃ z : Int32, z = v4 + 1 := ⟨_, rfl⟩
        have h := h x20 ex20
        refine r_iinc (v := x20) (lv' := [(0, .ref ((a 0) 50)), (1, .int v1), (2, .int v2), (3, .int v3), (4, .int x20)]) C dX5_wants_79 rfl (by rw [ex20]; rfl) [some 0, some 1, some 2, some 3, none] (by decide) rfl rfl ?_
        refine r_goto (tgt := 25) C dX5_wants_82 (by decide) ?_
        exact hR v3 x20 h
      · have h := h.2 c19
        refine r_iload_n C dX5_wants_72 rfl ?_
        refine r_iconst (v := 1) C dX5_wants_73 (by decide) ?_
        refine r_iload C dX5_wants_74 rfl ?_
        refine r_ishl C dX5_wants_76 ?_
        refine r_ior C dX5_wants_77 ?_
        refine r_topi (fun x21 ex21 => ?_)
        have h := h x21 ex21
        refine r_istore_n (lv' := [(0, .ref ((a 0) 50)), (1, .int v1), (2, .int v2), (3, .int x21), (4, .int v4)]) C dX5_wants_78 [some 0, some 1, some 2, none, some 4] (by decide) rfl rfl ?_
        obtain ⟨x22, ex22⟩ : ∃ z : Int32, z = v4 + 1 := ⟨_, rfl⟩
        have h := h x22 ex22
        refine r_iinc (v := x22) (lv' := [(0, .ref ((a 0) 50)), (1, .int v1), (2, .int v2), (3, .int x21), (4, .int x22)]) C dX5_wants_79 rfl (by rw [ex22]; rfl) [some 0, some 1, some 2, some 3, none] (by decide) rfl rfl ?_
        refine r_goto (tgt := 25) C dX5_wants_82 (by decide) ?_
        exact hR x21 x22 h
def fX5_wants_25 (N : Nat) (sb : RS) (lw : Nat → Option Nat) (sp : RS) (lp : List Nat) (pf : Nat → RS) (v1 : Int32) (v2 : Int32) (K : Int32 → Prop) (Q : Int32 → Prop) : Nat → Int32 → Int32 → Prop
  | 0, _, _ => False
  | n + 1, v3, v4 => fX5_wants_25b N sb lw sp lp pf v1 v2 v3 v4 (fun v3 v4 => fX5_wants_25 N sb lw sp lp pf v1 v2 K Q n v3 v4) K Q
set_option maxRecDepth 100000 in
set_option maxHeartbeats 4000000 in
theorem wfX5_wants_25 {x : Nx} {g : Gx} {W0 : va_W} {a : Nat → Nat → Nat} {sb : RS} {lw : Nat → Option Nat} {st : RS} {sp : RS} {sd : RS} {ss : RS} {sy : RS} {si : Nat → Option Nat} {lp : List Nat} {pf : Nat → RS} {N : Nat} {v1 : Int32} {v2 : Int32} {K : Int32 → Prop} {Q : Int32 → Prop} (C : Cx x g cX5_wants RX5 wsX5_wants rmX5_wants yX5_wants (some .int) 5) (hZ : Zq x g W0 (fun _ : Unit => sysW g a sb lw st sp sd ss sy si lp pf) (qI (fun (r : Int32) (_ : Unit) => Q r)) 0 0) (hK : ∀ (w3 : Int32), K w3 → St x 0 0 (sysW g a sb lw st sp sd ss sy si lp pf) [(3, .int w3)] [] 85) : ∀ (n : Nat) (v3 : Int32) (v4 : Int32), fX5_wants_25 N sb lw sp lp pf v1 v2 K Q n v3 v4 → St x 0 0 (sysW g a sb lw st sp sd ss sy si lp pf) [(0, .ref ((a 0) 50)), (1, .int v1), (2, .int v2), (3, .int v3), (4, .int v4)] [] 25 := by
  intro n
  induction n with
  | zero => intro v3 v4 h; exact False.elim h
  | succ n ih => intro v3 v4 h; exact wfX5_wants_25b C hZ ih hK h
def fX5_wants (N : Nat) (sb : RS) (lw : Nat → Option Nat) (sp : RS) (lp : List Nat) (pf : Nat → RS) (v1 : Int32) (v2 : Int32) (Q : Int32 → Prop) : Prop :=
  (fX2_has N sp v1 (fun r1 => ((r1 = 0 → Q (-1)) ∧ (¬ r1 = 0 → (fX5_isDay N v2 (fun r3 => ((¬ r3 = 0 → (fX5_wants_25 N sb lw sp lp pf v1 v2 (fun x23 => Q x23) Q N 0 0)) ∧ (r3 = 0 → Q (-1)))))))))
set_option maxRecDepth 100000 in
set_option maxHeartbeats 4000000 in
theorem tX5_wants (l : Launch) (g : Gx) (a : Nat → Nat → Nat) (sb : RS) (lw : Nat → Option Nat) (st : RS) (sp : RS) (sd : RS) (ss : RS) (sy : RS) (si : Nat → Option Nat) (lp : List Nat) (pf : Nat → RS) (N : Nat) (v1 : Int32) (v2 : Int32) (Q : Int32 → Prop) (h : fX5_wants N sb lw sp lp pf v1 v2 Q) : MetG l g yX5_wants wsX5_wants rmX5_wants [.ref ((a 0) 50), .int v1, .int v2] (sysW g a sb lw st sp sd ss sy si lp pf) (fun _ : Unit => sysW g a sb lw st sp sd ss sy si lp pf) (qI (fun (r : Int32) (_ : Unit) => Q r)) 0 0 := by
  refine met_of (cc := cX5_wants) (own := RX5) (nL := 5) (ret := (some .int)) (lv := [(0, .ref ((a 0) 50)), (1, .int v1), (2, .int v2)]) (by decide) rfl rfl (Nat.le_of_ble_eq_true rfl) rfl ?_
  intro x C hl hZ
  subst hl
  unfold fX5_wants at h
  refine r_aload_n C dX5_wants_0 rfl ?_
  refine r_get (cn := RX5) (T := TX5) (N := 13) (ci := 5) C uwX5_wants_5 0 rfl rfl 6 (by decide) kwX5_wants_0 (v := .ref ((a 2) 50)) rfl dX5_wants_1 ?_
  refine r_iload_n C dX5_wants_4 rfl ?_
  refine callR_I C (run_V (As := [.int v1]) (rest := []) (ci := 2) C hZ.2.2 (tX2_has _ g (a 2) sp N v1 _ h) gX5_wants_X2_has rfl dsX2_has rfl rfl ⟨(Nat.le_of_ble_eq_true rfl), (Nat.le_of_ble_eq_true rfl)⟩ rfl (List.mem_of_getElem? (i := 5) rfl) rfl (Nat.le_of_ble_eq_true rfl) dX5_wants_5 ⟨Nat.zero_le _, Nat.zero_le _⟩) sl_p (fun _ => rfl) (fun r1 _ h => ?_)
  refine r_if_eq (tgt := 18) C dX5_wants_8 (by decide) (fun c2 => ?_) (fun c2 => ?_)
  · have h := h.1 c2
    refine r_iconst (v := (-1)) C dX5_wants_18 (by decide) ?_
    exact r_iret C hZ (u := ()) h rfl dX5_wants_19
  · have h := h.2 c2
    refine r_iload_n C dX5_wants_11 rfl ?_
    refine callR_I C (run_S (As := [.int v2]) (rest := []) C hZ.2.2 (tX5_isDay _ g N v2 _ h) gX5_wants_X5_isDay rfl dsX5_isDay rfl rfl ⟨(Nat.le_of_ble_eq_true rfl), (Nat.le_of_ble_eq_true rfl)⟩ rfl (Nat.le_of_ble_eq_true rfl) dX5_wants_12 ⟨Nat.zero_le _, Nat.zero_le _⟩) (List.nil_sublist _) (fun _ => rfl) (fun r3 _ h => ?_)
    refine r_if_ne (tgt := 20) C dX5_wants_15 (by decide) (fun c4 => ?_) (fun c4 => ?_)
    · have h := h.1 c4
      refine r_iconst (v := 0) C dX5_wants_20 (by decide) ?_
      refine r_istore_n (lv' := [(0, .ref ((a 0) 50)), (1, .int v1), (2, .int v2), (3, .int 0)]) C dX5_wants_21 [some 0, some 1, some 2, none] (by decide) rfl rfl ?_
      refine r_iconst (v := 0) C dX5_wants_22 (by decide) ?_
      refine r_istore (lv' := [(0, .ref ((a 0) 50)), (1, .int v1), (2, .int v2), (3, .int 0), (4, .int 0)]) C dX5_wants_23 [some 0, some 1, some 2, some 3, none] (by decide) rfl rfl ?_
      refine wfX5_wants_25 C hZ (fun x23 h => ?_) N _ _ h
      refine r_iload_n C dX5_wants_85 rfl ?_
      exact r_iret C hZ (u := ()) h rfl dX5_wants_86
    · have h := h.2 c4
      refine r_iconst (v := (-1)) C dX5_wants_18 (by decide) ?_
      exact r_iret C hZ (u := ()) h rfl dX5_wants_19
def rmX5_knownToday : Room := { frames := 1, cells := 0, slots := 0, locals := 21 }
theorem kwX5_knownToday_0 : Cond.fieldLink RX5 65 "WantsBench" "lawCount" "I" ∈ wsX5_knownToday := by decide +kernel
theorem uwX5_knownToday_5 : ∀ w ∈ wsX50, w ∈ wsX5_knownToday := by decide +kernel
theorem kwX5_knownToday_2 : Cond.fieldLink RX5 18 "WantsBench" "laws" "[LWantsBench$Law;" ∈ wsX5_knownToday := by decide +kernel
theorem kwX5_knownToday_3 : Cond.fieldLink RX5 50 "WantsBench" "day" "I" ∈ wsX5_knownToday := by decide +kernel
def fX5_knownToday_4b (N : Nat) (sb : RS) (lw : Nat → Option Nat) (lp : List Nat) (pf : Nat → RS) (v1 : Int32) (v2 : Int32) (R : Int32 → Int32 → Prop) (K : Int32 → Prop) (Q : Int32 → Prop) : Prop :=
  (((sb.1 2) ≤ v2 → K v1) ∧ (¬ (sb.1 2) ≤ v2 → (vp_in v2 20 ∧ (∃ q3 : Nat, lw v2.toNatClampNeg = some q3 ∧ (q3 ∈ lp ∧ (fX1_isKnown N (pf q3) (sb.1 3) (fun r6 => ((r6 = 0 → (∀ x8 : Int32, x8 = v2 + 1 → R v1 x8)) ∧ (¬ r6 = 0 → (∀ x9 : Int32, x9 = v1 + 1 → (∀ x10 : Int32, x10 = v2 + 1 → R x9 x10)))))))))))
set_option maxRecDepth 100000 in
set_option maxHeartbeats 4000000 in
theorem wfX5_knownToday_4b {x : Nx} {g : Gx} {W0 : va_W} {a : Nat → Nat → Nat} {sb : RS} {lw : Nat → Option Nat} {st : RS} {sp : RS} {sd : RS} {ss : RS} {sy : RS} {si : Nat → Option Nat} {lp : List Nat} {pf : Nat → RS} {N : Nat} {v1 : Int32} {v2 : Int32} {R : Int32 → Int32 → Prop} {K : Int32 → Prop} {Q : Int32 → Prop} (C : Cx x g cX5_knownToday RX5 wsX5_knownToday rmX5_knownToday yX5_knownToday (some .int) 3) (hZ : Zq x g W0 (fun _ : Unit => sysW g a sb lw st sp sd ss sy si lp pf) (qI (fun (r : Int32) (_ : Unit) => Q r)) 0 0) (hR : ∀ (w1 : Int32) (w2 : Int32), R w1 w2 → St x 0 0 (sysW g a sb lw st sp sd ss sy si lp pf) [(0, .ref ((a 0) 50)), (1, .int w1), (2, .int w2)] [] 4) (hK : ∀ (w1 : Int32), K w1 → St x 0 0 (sysW g a sb lw st sp sd ss sy si lp pf) [(1, .int w1)] [] 37) (h : fX5_knownToday_4b N sb lw lp pf v1 v2 R K Q) : St x 0 0 (sysW g a sb lw st sp sd ss sy si lp pf) [(0, .ref ((a 0) 50)), (1, .int v1), (2, .int v2)] [] 4 := by
  unfold fX5_knownToday_4b at h
  refine r_iload_n C dX5_knownToday_4 rfl ?_
  refine r_aload_n C dX5_knownToday_5 rfl ?_
  refine r_get (cn := RX5) (T := TX5) (N := 13) (ci := 5) C uwX5_knownToday_5 0 rfl rfl 2 (by decide) kwX5_knownToday_0 (v := .int (sb.1 2)) rfl dX5_knownToday_6 ?_
  refine r_icmp_ge (tgt := 37) C dX5_knownToday_9 (by decide) (fun c1 => ?_) (fun c1 => ?_)
  · have h := h.1 c1
    refine r_sub [1] (lv' := [(1, .int v1)]) rfl ?_
    exact hK v1 h
  · have h := h.2 c1
    refine r_aload_n C dX5_knownToday_12 rfl ?_
    refine r_get (cn := RX5) (T := TX5) (N := 13) (ci := 5) C uwX5_knownToday_5 0 rfl rfl 1 (by decide) kwX5_knownToday_2 (v := .ref ((a 0) 1)) rfl dX5_knownToday_13 ?_
    refine r_iload_n C dX5_knownToday_16 rfl ?_
    obtain ⟨hi2, h⟩ := h
    obtain ⟨q3, hq4, h⟩ := h
    refine r_aaldS C 1 rfl hi2 hq4 dX5_knownToday_17 ?_
    refine r_aload_n C dX5_knownToday_18 rfl ?_
    refine r_get (cn := RX5) (T := TX5) (N := 13) (ci := 5) C uwX5_knownToday_5 0 rfl rfl 3 (by decide) kwX5_knownToday_3 (v := .int (sb.1 3)) rfl dX5_knownToday_19 ?_
    obtain ⟨hq5, h⟩ := h
    refine callR_I C (run_V (As := [.int (sb.1 3)]) (rest := []) (ci := 1) C hZ.2.2 (tX1_isKnown _ g q3 (pf q3) N (sb.1 3) _ h) gX5_knownToday_X1_isKnown rfl dsX1_isKnown rfl rfl ⟨(Nat.le_of_ble_eq_true rfl), (Nat.le_of_ble_eq_true rfl)⟩ rfl (List.mem_append_right _ (pl_mem hq5)) rfl (Nat.le_of_ble_eq_true rfl) dX5_knownToday_22 ⟨Nat.zero_le _, Nat.zero_le _⟩) (slq hq5) (fun _ => rfl) (fun r6 _ h => ?_)
    refine r_if_eq (tgt := 31) C dX5_knownToday_25 (by decide) (fun c7 => ?_) (fun c7 => ?_)
    · have h := h.1 c7
      obtain ⟨x8, ex8⟩ : ∃ z : Int32, z = v2 + 1 := ⟨_, rfl⟩
      have h := h x8 ex8
      refine r_iinc (v := x8) (lv' := [(0, .ref ((a 0) 50)), (1, .int v1), (2, .int x8)]) C dX5_knownToday_31 rfl (by rw [ex8]; rfl) [some 0, some 1, none] (by decide) rfl rfl ?_
      refine r_goto (tgt := 4) C dX5_knownToday_34 (by decide) ?_
      exact hR v1 x8 h
    · have h := h.2 c7
      obtain ⟨x9, ex9⟩ : ∃ z : Int32, z = v1 + 1 := ⟨_, rfl⟩
      have h := h x9 ex9
      refine r_iinc (v := x9) (lv' := [(0, .ref ((a 0) 50)), (1, .int x9), (2, .int v2)]) C dX5_knownToday_28 rfl (by rw [ex9]; rfl) [some 0, none, some 2] (by decide) rfl rfl ?_
      obtain ⟨x10, ex10⟩ : ∃ z : Int32, z = v2 + 1 := ⟨_, rfl⟩
      have h := h x10 ex10
      refine r_iinc (v := x10) (lv' := [(0, .ref ((a 0) 50)), (1, .int x9), (2, .int x10)]) C dX5_knownToday_31 rfl (by rw [ex10]; rfl) [some 0, some 1, none] (by decide) rfl rfl ?_
      refine r_goto (tgt := 4) C dX5_knownToday_34 (by decide) ?_
      exact hR x9 x10 h
def fX5_knownToday_4 (N : Nat) (sb : RS) (lw : Nat → Option Nat) (lp : List Nat) (pf : Nat → RS) (K : Int32 → Prop) (Q : Int32 → Prop) : Nat → Int32 → Int32 → Prop
  | 0, _, _ => False
  | n + 1, v1, v2 => fX5_knownToday_4b N sb lw lp pf v1 v2 (fun v1 v2 => fX5_knownToday_4 N sb lw lp pf K Q n v1 v2) K Q
set_option maxRecDepth 100000 in
set_option maxHeartbeats 4000000 in
theorem wfX5_knownToday_4 {x : Nx} {g : Gx} {W0 : va_W} {a : Nat → Nat → Nat} {sb : RS} {lw : Nat → Option Nat} {st : RS} {sp : RS} {sd : RS} {ss : RS} {sy : RS} {si : Nat → Option Nat} {lp : List Nat} {pf : Nat → RS} {N : Nat} {K : Int32 → Prop} {Q : Int32 → Prop} (C : Cx x g cX5_knownToday RX5 wsX5_knownToday rmX5_knownToday yX5_knownToday (some .int) 3) (hZ : Zq x g W0 (fun _ : Unit => sysW g a sb lw st sp sd ss sy si lp pf) (qI (fun (r : Int32) (_ : Unit) => Q r)) 0 0) (hK : ∀ (w1 : Int32), K w1 → St x 0 0 (sysW g a sb lw st sp sd ss sy si lp pf) [(1, .int w1)] [] 37) : ∀ (n : Nat) (v1 : Int32) (v2 : Int32), fX5_knownToday_4 N sb lw lp pf K Q n v1 v2 → St x 0 0 (sysW g a sb lw st sp sd ss sy si lp pf) [(0, .ref ((a 0) 50)), (1, .int v1), (2, .int v2)] [] 4 := by
  intro n
  induction n with
  | zero => intro v1 v2 h; exact False.elim h
  | succ n ih => intro v1 v2 h; exact wfX5_knownToday_4b C hZ ih hK h
def fX5_knownToday (N : Nat) (sb : RS) (lw : Nat → Option Nat) (lp : List Nat) (pf : Nat → RS) (Q : Int32 → Prop) : Prop :=
  (fX5_knownToday_4 N sb lw lp pf (fun x11 => Q x11) Q N 0 0)
set_option maxRecDepth 100000 in
set_option maxHeartbeats 4000000 in
theorem tX5_knownToday (l : Launch) (g : Gx) (a : Nat → Nat → Nat) (sb : RS) (lw : Nat → Option Nat) (st : RS) (sp : RS) (sd : RS) (ss : RS) (sy : RS) (si : Nat → Option Nat) (lp : List Nat) (pf : Nat → RS) (N : Nat) (Q : Int32 → Prop) (h : fX5_knownToday N sb lw lp pf Q) : MetG l g yX5_knownToday wsX5_knownToday rmX5_knownToday [.ref ((a 0) 50)] (sysW g a sb lw st sp sd ss sy si lp pf) (fun _ : Unit => sysW g a sb lw st sp sd ss sy si lp pf) (qI (fun (r : Int32) (_ : Unit) => Q r)) 0 0 := by
  refine met_of (cc := cX5_knownToday) (own := RX5) (nL := 3) (ret := (some .int)) (lv := [(0, .ref ((a 0) 50))]) (by decide) rfl rfl (Nat.le_of_ble_eq_true rfl) rfl ?_
  intro x C hl hZ
  subst hl
  unfold fX5_knownToday at h
  refine r_iconst (v := 0) C dX5_knownToday_0 (by decide) ?_
  refine r_istore_n (lv' := [(0, .ref ((a 0) 50)), (1, .int 0)]) C dX5_knownToday_1 [some 0, none] (by decide) rfl rfl ?_
  refine r_iconst (v := 0) C dX5_knownToday_2 (by decide) ?_
  refine r_istore_n (lv' := [(0, .ref ((a 0) 50)), (1, .int 0), (2, .int 0)]) C dX5_knownToday_3 [some 0, some 1, none] (by decide) rfl rfl ?_
  refine wfX5_knownToday_4 C hZ (fun x11 h => ?_) N _ _ h
  refine r_iload_n C dX5_knownToday_37 rfl ?_
  exact r_iret C hZ (u := ()) h rfl dX5_knownToday_38
def rmX5_count : Room := { frames := 2, cells := 0, slots := 0, locals := 43 }
theorem kwX5_count_0 : Cond.fieldLink RX5 65 "WantsBench" "lawCount" "I" ∈ wsX5_count := by decide +kernel
theorem uwX5_count_5 : ∀ w ∈ wsX50, w ∈ wsX5_count := by decide +kernel
theorem kwX5_count_2 : Cond.fieldLink RX5 50 "WantsBench" "day" "I" ∈ wsX5_count := by decide +kernel
theorem kwX5_count_3 : Cond.fieldLink RX5 212 "WantsBench" "runLength" "I" ∈ wsX5_count := by decide +kernel
theorem kwX5_count_4 : Cond.fieldLink RX5 29 "WantsBench" "parts" "LWantsBench$Parts;" ∈ wsX5_count := by decide +kernel
theorem kwX5_count_5 : Cond.fieldLink RX5 248 "WantsBench$Parts" "size" "I" ∈ wsX5_count := by decide +kernel
theorem uwX5_count_2 : ∀ w ∈ wsX20, w ∈ wsX5_count := by decide +kernel
theorem kwX5_count_7 : Cond.fieldLink RX5 10 "WantsBench" "tape" "LWantsBench$Tape;" ∈ wsX5_count := by decide +kernel
theorem kwX5_count_8 : Cond.fieldLink RX5 58 "WantsBench$Tape" "length" "I" ∈ wsX5_count := by decide +kernel
theorem uwX5_count_3 : ∀ w ∈ wsX30, w ∈ wsX5_count := by decide +kernel
def fX5_count (N : Nat) (sb : RS) (lw : Nat → Option Nat) (st : RS) (sp : RS) (lp : List Nat) (pf : Nat → RS) (v1 : Int32) (Q : Int32 → Prop) : Prop :=
  (((v1.toInt < 0 ∨ 5 < v1.toInt) → Q (-1)) ∧ (v1 = 0 → Q (sb.1 2)) ∧ (v1 = 1 → Q (sb.1 3)) ∧ (v1 = 2 → (fX5_knownToday N sb lw lp pf (fun r4 => Q r4))) ∧ (v1 = 3 → Q (sb.1 5)) ∧ (v1 = 4 → Q (sp.1 1)) ∧ (v1 = 5 → Q (st.1 1)))
set_option maxRecDepth 100000 in
set_option maxHeartbeats 4000000 in
theorem tX5_count (l : Launch) (g : Gx) (a : Nat → Nat → Nat) (sb : RS) (lw : Nat → Option Nat) (st : RS) (sp : RS) (sd : RS) (ss : RS) (sy : RS) (si : Nat → Option Nat) (lp : List Nat) (pf : Nat → RS) (N : Nat) (v1 : Int32) (Q : Int32 → Prop) (h : fX5_count N sb lw st sp lp pf v1 Q) : MetG l g yX5_count wsX5_count rmX5_count [.ref ((a 0) 50), .int v1] (sysW g a sb lw st sp sd ss sy si lp pf) (fun _ : Unit => sysW g a sb lw st sp sd ss sy si lp pf) (qI (fun (r : Int32) (_ : Unit) => Q r)) 0 0 := by
  refine met_of (cc := cX5_count) (own := RX5) (nL := 2) (ret := (some .int)) (lv := [(0, .ref ((a 0) 50)), (1, .int v1)]) (by decide) rfl rfl (Nat.le_of_ble_eq_true rfl) rfl ?_
  intro x C hl hZ
  subst hl
  unfold fX5_count at h
  refine r_iload_n C dX5_count_0 rfl ?_
  rcases sw_cases 5 v1 with hs1 | ⟨k2, hk3, hs1⟩
  · have h := h.1 hs1
    refine r_tableOut (tgt := 76) C dX5_count_1 hs1 (by decide) ?_
    refine r_iconst (v := (-1)) C dX5_count_76 (by decide) ?_
    exact r_iret C hZ (u := ()) h rfl dX5_count_77
  · match k2, hk3, hs1 with
    | 0, _, hs1 =>
      have h := h.2.1 hs1
      rw [hs1]
      refine r_tableIn (tgt := 40) C dX5_count_1 (by decide) (by decide) (off := 39) (by decide) (by decide) ?_
      refine r_aload_n C dX5_count_40 rfl ?_
      refine r_get (cn := RX5) (T := TX5) (N := 13) (ci := 5) C uwX5_count_5 0 rfl rfl 2 (by decide) kwX5_count_0 (v := .int (sb.1 2)) rfl dX5_count_41 ?_
      exact r_iret C hZ (u := ()) h rfl dX5_count_44
    | 1, _, hs1 =>
      have h := h.2.2.1 hs1
      rw [hs1]
      refine r_tableIn (tgt := 45) C dX5_count_1 (by decide) (by decide) (off := 44) (by decide) (by decide) ?_
      refine r_aload_n C dX5_count_45 rfl ?_
      refine r_get (cn := RX5) (T := TX5) (N := 13) (ci := 5) C uwX5_count_5 0 rfl rfl 3 (by decide) kwX5_count_2 (v := .int (sb.1 3)) rfl dX5_count_46 ?_
      exact r_iret C hZ (u := ()) h rfl dX5_count_49
    | 2, _, hs1 =>
      have h := h.2.2.2.1 hs1
      rw [hs1]
      refine r_tableIn (tgt := 50) C dX5_count_1 (by decide) (by decide) (off := 49) (by decide) (by decide) ?_
      refine r_aload_n C dX5_count_50 rfl ?_
      refine callR_I C (run_V (As := []) (rest := []) (ci := 5) C hZ.2.2 (tX5_knownToday _ g a sb lw st sp sd ss sy si lp pf N _ h) gX5_count_X5_knownToday rfl dsX5_knownToday rfl rfl ⟨(Nat.le_of_ble_eq_true rfl), (Nat.le_of_ble_eq_true rfl)⟩ rfl (List.mem_of_getElem? (i := 0) rfl) rfl (Nat.le_of_ble_eq_true rfl) dX5_count_51 ⟨Nat.zero_le _, Nat.zero_le _⟩) (List.Sublist.refl _) (fun _ => rfl) (fun r4 _ h => ?_)
      exact r_iret C hZ (u := ()) h rfl dX5_count_54
    | 3, _, hs1 =>
      have h := h.2.2.2.2.1 hs1
      rw [hs1]
      refine r_tableIn (tgt := 55) C dX5_count_1 (by decide) (by decide) (off := 54) (by decide) (by decide) ?_
      refine r_aload_n C dX5_count_55 rfl ?_
      refine r_get (cn := RX5) (T := TX5) (N := 13) (ci := 5) C uwX5_count_5 0 rfl rfl 5 (by decide) kwX5_count_3 (v := .int (sb.1 5)) rfl dX5_count_56 ?_
      exact r_iret C hZ (u := ()) h rfl dX5_count_59
    | 4, _, hs1 =>
      have h := h.2.2.2.2.2.1 hs1
      rw [hs1]
      refine r_tableIn (tgt := 60) C dX5_count_1 (by decide) (by decide) (off := 59) (by decide) (by decide) ?_
      refine r_aload_n C dX5_count_60 rfl ?_
      refine r_get (cn := RX5) (T := TX5) (N := 13) (ci := 5) C uwX5_count_5 0 rfl rfl 6 (by decide) kwX5_count_4 (v := .ref ((a 2) 50)) rfl dX5_count_61 ?_
      refine r_get (cn := RX2) (T := TX2) (N := 2) (ci := 2) C uwX5_count_2 5 rfl rfl 1 (by decide) kwX5_count_5 (v := .int (sp.1 1)) rfl dX5_count_64 ?_
      exact r_iret C hZ (u := ()) h rfl dX5_count_67
    | 5, _, hs1 =>
      have h := h.2.2.2.2.2.2 hs1
      rw [hs1]
      refine r_tableIn (tgt := 68) C dX5_count_1 (by decide) (by decide) (off := 67) (by decide) (by decide) ?_
      refine r_aload_n C dX5_count_68 rfl ?_
      refine r_get (cn := RX5) (T := TX5) (N := 13) (ci := 5) C uwX5_count_5 0 rfl rfl 0 (by decide) kwX5_count_7 (v := .ref ((a 1) 50)) rfl dX5_count_69 ?_
      refine r_get (cn := RX3) (T := TX3) (N := 8) (ci := 3) C uwX5_count_3 3 rfl rfl 1 (by decide) kwX5_count_8 (v := .int (st.1 1)) rfl dX5_count_72 ?_
      exact r_iret C hZ (u := ()) h rfl dX5_count_75
    | k2 + 6, hk3, _ => exact absurd hk3 (by omega)
def rmX6_within : Room := { frames := 0, cells := 0, slots := 0, locals := 0 }
def fX6_within (N : Nat) (v0 : Int32) (v1 : Int32) (v2 : Int32) (Q : Int32 → Prop) : Prop :=
  ((v0 < v1 → Q 0) ∧ (¬ v0 < v1 → ((v2 < v0 → Q 0) ∧ (¬ v2 < v0 → Q 1))))
set_option maxRecDepth 100000 in
set_option maxHeartbeats 4000000 in
theorem tX6_within (l : Launch) (g : Gx) (N : Nat) (v0 : Int32) (v1 : Int32) (v2 : Int32) (Q : Int32 → Prop) (h : fX6_within N v0 v1 v2 Q) : MetG l g yX6_within wsX6_within rmX6_within [.int v0, .int v1, .int v2] (([] : va_W)) (fun _ : Unit => ([] : va_W)) (qI (fun (r : Int32) (_ : Unit) => Q r)) 0 0 := by
  refine met_of (cc := cX6_within) (own := RX6) (nL := 3) (ret := (some .boolean)) (lv := [(0, .int v0), (1, .int v1), (2, .int v2)]) (by decide) rfl rfl (Nat.le_of_ble_eq_true rfl) rfl ?_
  intro x C hl hZ
  subst hl
  unfold fX6_within at h
  refine r_iload_n C dX6_within_0 rfl ?_
  refine r_iload_n C dX6_within_1 rfl ?_
  refine r_icmp_lt (tgt := 14) C dX6_within_2 (by decide) (fun c1 => ?_) (fun c1 => ?_)
  · have h := h.1 c1
    refine r_iconst (v := 0) C dX6_within_14 (by decide) ?_
    exact r_zret C hZ (u := ()) (by decide) h rfl dX6_within_15
  · have h := h.2 c1
    refine r_iload_n C dX6_within_5 rfl ?_
    refine r_iload_n C dX6_within_6 rfl ?_
    refine r_icmp_gt (tgt := 14) C dX6_within_7 (by decide) (fun c2 => ?_) (fun c2 => ?_)
    · have h := h.1 c2
      refine r_iconst (v := 0) C dX6_within_14 (by decide) ?_
      exact r_zret C hZ (u := ()) (by decide) h rfl dX6_within_15
    · have h := h.2 c2
      refine r_iconst (v := 1) C dX6_within_10 (by decide) ?_
      refine r_goto (tgt := 15) C dX6_within_11 (by decide) ?_
      exact r_zret C hZ (u := ()) (by decide) h rfl dX6_within_15
def rmX6_isWant : Room := { frames := 0, cells := 0, slots := 0, locals := 0 }
theorem kwX6_isWant_0 : Cond.fieldLink RX6 87 "WantsBenchModel" "wants" "I" ∈ wsX6_isWant := by decide +kernel
theorem uwX6_isWant_6 : ∀ w ∈ wsX60, w ∈ wsX6_isWant := by decide +kernel
def fX6_isWant (N : Nat) (S : RS) (v1 : Int32) (Q : Int32 → Prop) : Prop :=
  ((v1 < 0 → Q 0) ∧ (¬ v1 < 0 → (((S.1 13) ≤ v1 → Q 0) ∧ (¬ (S.1 13) ≤ v1 → Q 1))))
set_option maxRecDepth 100000 in
set_option maxHeartbeats 4000000 in
theorem tX6_isWant (l : Launch) (g : Gx) (a : Nat → Nat) (S : RS) (N : Nat) (v1 : Int32) (Q : Int32 → Prop) (h : fX6_isWant N S v1 Q) : MetG l g yX6_isWant wsX6_isWant rmX6_isWant [.ref (a 50), .int v1] (mW g a S) (fun _ : Unit => mW g a S) (qI (fun (r : Int32) (_ : Unit) => Q r)) 0 0 := by
  refine met_of (cc := cX6_isWant) (own := RX6) (nL := 2) (ret := (some .boolean)) (lv := [(0, .ref (a 50)), (1, .int v1)]) (by decide) rfl rfl (Nat.le_of_ble_eq_true rfl) rfl ?_
  intro x C hl hZ
  subst hl
  unfold fX6_isWant at h
  refine r_iload_n C dX6_isWant_0 rfl ?_
  refine r_if_lt (tgt := 16) C dX6_isWant_1 (by decide) (fun c1 => ?_) (fun c1 => ?_)
  · have h := h.1 c1
    refine r_iconst (v := 0) C dX6_isWant_16 (by decide) ?_
    exact r_zret C hZ (u := ()) (by decide) h rfl dX6_isWant_17
  · have h := h.2 c1
    refine r_iload_n C dX6_isWant_4 rfl ?_
    refine r_aload_n C dX6_isWant_5 rfl ?_
    refine r_get (cn := RX6) (T := TX6) (N := 43) (ci := 6) C uwX6_isWant_6 0 rfl rfl 13 (by decide) kwX6_isWant_0 (v := .int (S.1 13)) rfl dX6_isWant_6 ?_
    refine r_icmp_ge (tgt := 16) C dX6_isWant_9 (by decide) (fun c2 => ?_) (fun c2 => ?_)
    · have h := h.1 c2
      refine r_iconst (v := 0) C dX6_isWant_16 (by decide) ?_
      exact r_zret C hZ (u := ()) (by decide) h rfl dX6_isWant_17
    · have h := h.2 c2
      refine r_iconst (v := 1) C dX6_isWant_12 (by decide) ?_
      refine r_goto (tgt := 17) C dX6_isWant_13 (by decide) ?_
      exact r_zret C hZ (u := ()) (by decide) h rfl dX6_isWant_17
def rmX6_today : Room := { frames := 1, cells := 0, slots := 0, locals := 22 }
theorem kwX6_today_0 : Cond.fieldLink RX6 91 "WantsBenchModel" "today" "I" ∈ wsX6_today := by decide +kernel
theorem uwX6_today_6 : ∀ w ∈ wsX60, w ∈ wsX6_today := by decide +kernel
def fX6_today (N : Nat) (S : RS) (v1 : Int32) (Q : Int32 → RS → Prop) : Prop :=
  (fX6_within N v1 (S.1 0) 9999 (fun r1 => ((¬ r1 = 0 → (∀ x3 : Int32, x3 = S.1 0 → (∀ S4 : RS, S4 = sI S 0 v1 → Q x3 S4))) ∧ (r1 = 0 → Q (-1) S))))
set_option maxRecDepth 100000 in
set_option maxHeartbeats 4000000 in
theorem tX6_today (l : Launch) (g : Gx) (a : Nat → Nat) (S : RS) (N : Nat) (v1 : Int32) (Q : Int32 → RS → Prop) (h : fX6_today N S v1 Q) : MetG l g yX6_today wsX6_today rmX6_today [.ref (a 50), .int v1] (mW g a S) (fun u : RS => mW g a u) (qI (fun (r : Int32) (u : RS) => Q r u)) 0 0 := by
  refine met_of (cc := cX6_today) (own := RX6) (nL := 3) (ret := (some .int)) (lv := [(0, .ref (a 50)), (1, .int v1)]) (by decide) rfl rfl (Nat.le_of_ble_eq_true rfl) rfl ?_
  intro x C hl hZ
  subst hl
  unfold fX6_today at h
  refine r_iload_n C dX6_today_0 rfl ?_
  refine r_aload_n C dX6_today_1 rfl ?_
  refine r_get (cn := RX6) (T := TX6) (N := 43) (ci := 6) C uwX6_today_6 0 rfl rfl 0 (by decide) kwX6_today_0 (v := .int (S.1 0)) rfl dX6_today_2 ?_
  refine r_sipush (v := 9999) C dX6_today_5 (by decide) ?_
  refine callR_I C (run_S (As := [.int v1, .int (S.1 0), .int 9999]) (rest := []) C hZ.2.2 (tX6_within _ g N v1 (S.1 0) 9999 _ h) gX6_today_X6_within rfl dsX6_within rfl rfl ⟨(Nat.le_of_ble_eq_true rfl), (Nat.le_of_ble_eq_true rfl)⟩ rfl (Nat.le_of_ble_eq_true rfl) dX6_today_8 ⟨Nat.zero_le _, Nat.zero_le _⟩) (List.nil_sublist _) (fun _ => rfl) (fun r1 _ h => ?_)
  refine r_if_ne (tgt := 16) C dX6_today_11 (by decide) (fun c2 => ?_) (fun c2 => ?_)
  · have h := h.1 c2
    refine r_aload_n C dX6_today_16 rfl ?_
    refine r_get (cn := RX6) (T := TX6) (N := 43) (ci := 6) C uwX6_today_6 0 rfl rfl 0 (by decide) kwX6_today_0 (v := .int (S.1 0)) rfl dX6_today_17 ?_
    refine r_topi (fun x3 ex3 => ?_)
    have h := h x3 ex3
    refine r_istore_n (lv' := [(0, .ref (a 50)), (1, .int v1), (2, .int x3)]) C dX6_today_20 [some 0, some 1, none] (by decide) rfl rfl ?_
    refine r_aload_n C dX6_today_21 rfl ?_
    refine r_iload_n C dX6_today_22 rfl ?_
    obtain ⟨S4, hS4⟩ : ∃ z : RS, z = sI S 0 v1 := ⟨_, rfl⟩
    have h := h S4 hS4
    refine r_put (cn := RX6) (T := TX6) (N := 43) (ci := 6) (ws' := mW g a S4) C uwX6_today_6 tyX6 tyX6_ok nmX6 0 rfl rfl 0 (by decide) kwX6_today_0 rfl rfl rfl (Nat.le_of_ble_eq_true rfl) dX6_today_23 (by rw [hS4]; rfl) ?_
    refine r_iload_n C dX6_today_26 rfl ?_
    exact r_iret C hZ (u := S4) h rfl dX6_today_27
  · have h := h.2 c2
    refine r_iconst (v := (-1)) C dX6_today_14 (by decide) ?_
    exact r_iret C hZ (u := S) h rfl dX6_today_15
def rmX6_feed : Room := { frames := 1, cells := 0, slots := 0, locals := 22 }
theorem kwX6_feed_0 : Cond.fieldLink RX6 98 "WantsBenchModel" "tapeMany" "I" ∈ wsX6_feed := by decide +kernel
theorem uwX6_feed_6 : ∀ w ∈ wsX60, w ∈ wsX6_feed := by decide +kernel
theorem kwX6_feed_2 : Cond.fieldLink RX6 9 "WantsBenchModel" "tape" "[I" ∈ wsX6_feed := by decide +kernel
def fX6_feed_27b (N : Nat) (S : RS) (v1 : Int32) (v2 : Int32) (v3 : Int32) (R : Int32 → RS → Prop) (K : RS → Prop) (Q : Int32 → RS → Prop) : Prop :=
  ((v1 ≤ v3 → K S) ∧ (¬ v1 ≤ v3 → (vp_in (S.1 2) 80 ∧ (∀ S6 : RS, S6 = sA S 1 (upd (S.2.1 1) (S.1 2).toNatClampNeg ((v2 >>> (((8 : Int32) * v3) &&& 31)) &&& (255 : Int32))) → (∀ S7 : RS, S7 = sI S6 2 ((S6.1 2) + (1 : Int32)) → (∀ x8 : Int32, x8 = v3 + 1 → R x8 S7))))))
set_option maxRecDepth 100000 in
set_option maxHeartbeats 4000000 in
theorem wfX6_feed_27b {x : Nx} {g : Gx} {W0 : va_W} {a : Nat → Nat} {S : RS} {N : Nat} {v1 : Int32} {v2 : Int32} {v3 : Int32} {R : Int32 → RS → Prop} {K : RS → Prop} {Q : Int32 → RS → Prop} (C : Cx x g cX6_feed RX6 wsX6_feed rmX6_feed yX6_feed (some .int) 4) (hZ : Zq x g W0 (fun u : RS => mW g a u) (qI (fun (r : Int32) (u : RS) => Q r u)) 0 0) (hR : ∀ (w3 : Int32) (S_ : RS), R w3 S_ → St x 0 0 (mW g a S_) [(0, .ref (a 50)), (1, .int v1), (2, .int v2), (3, .int w3)] [] 27) (hK : ∀ (S_ : RS), K S_ → St x 0 0 (mW g a S_) [(0, .ref (a 50))] [] 67) (h : fX6_feed_27b N S v1 v2 v3 R K Q) : St x 0 0 (mW g a S) [(0, .ref (a 50)), (1, .int v1), (2, .int v2), (3, .int v3)] [] 27 := by
  unfold fX6_feed_27b at h
  refine r_iload_n C dX6_feed_27 rfl ?_
  refine r_iload_n C dX6_feed_28 rfl ?_
  refine r_icmp_ge (tgt := 67) C dX6_feed_29 (by decide) (fun c4 => ?_) (fun c4 => ?_)
  · have h := h.1 c4
    refine r_sub [0] (lv' := [(0, .ref (a 50))]) rfl ?_
    exact hK S h
  · have h := h.2 c4
    refine r_aload_n C dX6_feed_32 rfl ?_
    refine r_get (cn := RX6) (T := TX6) (N := 43) (ci := 6) C uwX6_feed_6 0 rfl rfl 1 (by decide) kwX6_feed_2 (v := .ref (a 1)) rfl dX6_feed_33 ?_
    refine r_aload_n C dX6_feed_36 rfl ?_
    refine r_get (cn := RX6) (T := TX6) (N := 43) (ci := 6) C uwX6_feed_6 0 rfl rfl 2 (by decide) kwX6_feed_0 (v := .int (S.1 2)) rfl dX6_feed_37 ?_
    refine r_iload_n C dX6_feed_40 rfl ?_
    refine r_bipush (v := 8) C dX6_feed_41 (by decide) ?_
    refine r_iload_n C dX6_feed_43 rfl ?_
    refine r_imul C dX6_feed_44 ?_
    refine r_ishr C dX6_feed_45 ?_
    refine r_sipush (v := 255) C dX6_feed_46 (by decide) ?_
    refine r_iand C dX6_feed_49 ?_
    obtain ⟨hi5, h⟩ := h
    obtain ⟨S6, hS6⟩ : ∃ z : RS, z = sA S 1 (upd (S.2.1 1) (S.1 2).toNatClampNeg ((v2 >>> (((8 : Int32) * v3) &&& 31)) &&& (255 : Int32))) := ⟨_, rfl⟩
    have h := h S6 hS6
    refine r_iast (ws' := mW g a S6) C 1 rfl hi5 dX6_feed_50 (by rw [hS6]; rfl) ?_
    refine r_aload_n C dX6_feed_51 rfl ?_
    refine r_dup C dX6_feed_52 rfl ?_
    refine r_get (cn := RX6) (T := TX6) (N := 43) (ci := 6) C uwX6_feed_6 0 rfl rfl 2 (by decide) kwX6_feed_0 (v := .int (S6.1 2)) rfl dX6_feed_53 ?_
    refine r_iconst (v := 1) C dX6_feed_56 (by decide) ?_
    refine r_iadd C dX6_feed_57 ?_
    obtain ⟨S7, hS7⟩ : ∃ z : RS, z = sI S6 2 ((S6.1 2) + (1 : Int32)) := ⟨_, rfl⟩
    have h := h S7 hS7
    refine r_put (cn := RX6) (T := TX6) (N := 43) (ci := 6) (ws' := mW g a S7) C uwX6_feed_6 tyX6 tyX6_ok nmX6 0 rfl rfl 2 (by decide) kwX6_feed_0 rfl rfl rfl (Nat.le_of_ble_eq_true rfl) dX6_feed_58 (by rw [hS7]; rfl) ?_
    obtain ⟨x8, ex8⟩ : ∃ z : Int32, z = v3 + 1 := ⟨_, rfl⟩
    have h := h x8 ex8
    refine r_iinc (v := x8) (lv' := [(0, .ref (a 50)), (1, .int v1), (2, .int v2), (3, .int x8)]) C dX6_feed_61 rfl (by rw [ex8]; rfl) [some 0, some 1, some 2, none] (by decide) rfl rfl ?_
    refine r_goto (tgt := 27) C dX6_feed_64 (by decide) ?_
    exact hR x8 S7 h
def fX6_feed_27 (N : Nat) (v1 : Int32) (v2 : Int32) (K : RS → Prop) (Q : Int32 → RS → Prop) : Nat → Int32 → RS → Prop
  | 0, _, _ => False
  | n + 1, v3, S => fX6_feed_27b N S v1 v2 v3 (fun v3 S => fX6_feed_27 N v1 v2 K Q n v3 S) K Q
set_option maxRecDepth 100000 in
set_option maxHeartbeats 4000000 in
theorem wfX6_feed_27 {x : Nx} {g : Gx} {W0 : va_W} {a : Nat → Nat}  {N : Nat} {v1 : Int32} {v2 : Int32} {K : RS → Prop} {Q : Int32 → RS → Prop} (C : Cx x g cX6_feed RX6 wsX6_feed rmX6_feed yX6_feed (some .int) 4) (hZ : Zq x g W0 (fun u : RS => mW g a u) (qI (fun (r : Int32) (u : RS) => Q r u)) 0 0) (hK : ∀ (S_ : RS), K S_ → St x 0 0 (mW g a S_) [(0, .ref (a 50))] [] 67) : ∀ (n : Nat) (v3 : Int32) (S : RS), fX6_feed_27 N v1 v2 K Q n v3 S → St x 0 0 (mW g a S) [(0, .ref (a 50)), (1, .int v1), (2, .int v2), (3, .int v3)] [] 27 := by
  intro n
  induction n with
  | zero => intro v3 S h; exact False.elim h
  | succ n ih => intro v3 S h; exact wfX6_feed_27b C hZ ih hK h
def fX6_feed (N : Nat) (S : RS) (v1 : Int32) (v2 : Int32) (Q : Int32 → RS → Prop) : Prop :=
  (fX6_within N v1 1 4 (fun r1 => ((¬ r1 = 0 → ((((S.1 2) + v1) ≤ 80 → (fX6_feed_27 N v1 v2 (fun S9 => Q (S9.1 2) S9) Q N 0 S)) ∧ (¬ ((S.1 2) + v1) ≤ 80 → Q (-2) S))) ∧ (r1 = 0 → Q (-1) S))))
set_option maxRecDepth 100000 in
set_option maxHeartbeats 4000000 in
theorem tX6_feed (l : Launch) (g : Gx) (a : Nat → Nat) (S : RS) (N : Nat) (v1 : Int32) (v2 : Int32) (Q : Int32 → RS → Prop) (h : fX6_feed N S v1 v2 Q) : MetG l g yX6_feed wsX6_feed rmX6_feed [.ref (a 50), .int v1, .int v2] (mW g a S) (fun u : RS => mW g a u) (qI (fun (r : Int32) (u : RS) => Q r u)) 0 0 := by
  refine met_of (cc := cX6_feed) (own := RX6) (nL := 4) (ret := (some .int)) (lv := [(0, .ref (a 50)), (1, .int v1), (2, .int v2)]) (by decide) rfl rfl (Nat.le_of_ble_eq_true rfl) rfl ?_
  intro x C hl hZ
  subst hl
  unfold fX6_feed at h
  refine r_iload_n C dX6_feed_0 rfl ?_
  refine r_iconst (v := 1) C dX6_feed_1 (by decide) ?_
  refine r_iconst (v := 4) C dX6_feed_2 (by decide) ?_
  refine callR_I C (run_S (As := [.int v1, .int 1, .int 4]) (rest := []) C hZ.2.2 (tX6_within _ g N v1 1 4 _ h) gX6_feed_X6_within rfl dsX6_within rfl rfl ⟨(Nat.le_of_ble_eq_true rfl), (Nat.le_of_ble_eq_true rfl)⟩ rfl (Nat.le_of_ble_eq_true rfl) dX6_feed_3 ⟨Nat.zero_le _, Nat.zero_le _⟩) (List.nil_sublist _) (fun _ => rfl) (fun r1 _ h => ?_)
  refine r_if_ne (tgt := 11) C dX6_feed_6 (by decide) (fun c2 => ?_) (fun c2 => ?_)
  · have h := h.1 c2
    refine r_aload_n C dX6_feed_11 rfl ?_
    refine r_get (cn := RX6) (T := TX6) (N := 43) (ci := 6) C uwX6_feed_6 0 rfl rfl 2 (by decide) kwX6_feed_0 (v := .int (S.1 2)) rfl dX6_feed_12 ?_
    refine r_iload_n C dX6_feed_15 rfl ?_
    refine r_iadd C dX6_feed_16 ?_
    refine r_bipush (v := 80) C dX6_feed_17 (by decide) ?_
    refine r_icmp_le (tgt := 25) C dX6_feed_19 (by decide) (fun c3 => ?_) (fun c3 => ?_)
    · have h := h.1 c3
      refine r_iconst (v := 0) C dX6_feed_25 (by decide) ?_
      refine r_istore_n (lv' := [(0, .ref (a 50)), (1, .int v1), (2, .int v2), (3, .int 0)]) C dX6_feed_26 [some 0, some 1, some 2, none] (by decide) rfl rfl ?_
      refine wfX6_feed_27 C hZ (fun S9 h => ?_) N _ _ h
      refine r_aload_n C dX6_feed_67 rfl ?_
      refine r_get (cn := RX6) (T := TX6) (N := 43) (ci := 6) C uwX6_feed_6 0 rfl rfl 2 (by decide) kwX6_feed_0 (v := .int (S9.1 2)) rfl dX6_feed_68 ?_
      exact r_iret C hZ (u := S9) h rfl dX6_feed_71
    · have h := h.2 c3
      refine r_bipush (v := (-2)) C dX6_feed_22 (by decide) ?_
      exact r_iret C hZ (u := S) h rfl dX6_feed_24
  · have h := h.2 c2
    refine r_iconst (v := (-1)) C dX6_feed_9 (by decide) ?_
    exact r_iret C hZ (u := S) h rfl dX6_feed_10
def rmX6_byteAt : Room := { frames := 0, cells := 0, slots := 0, locals := 0 }
theorem kwX6_byteAt_0 : Cond.fieldLink RX6 101 "WantsBenchModel" "at" "I" ∈ wsX6_byteAt := by decide +kernel
theorem uwX6_byteAt_6 : ∀ w ∈ wsX60, w ∈ wsX6_byteAt := by decide +kernel
theorem kwX6_byteAt_2 : Cond.fieldLink RX6 98 "WantsBenchModel" "tapeMany" "I" ∈ wsX6_byteAt := by decide +kernel
theorem kwX6_byteAt_3 : Cond.fieldLink RX6 9 "WantsBenchModel" "tape" "[I" ∈ wsX6_byteAt := by decide +kernel
def fX6_byteAt (N : Nat) (S : RS) (Q : Int32 → Prop) : Prop :=
  (((S.1 2) ≤ (S.1 35) → Q 0) ∧ (¬ (S.1 2) ≤ (S.1 35) → (vp_in (S.1 35) 80 ∧ Q (S.2.1 1 (S.1 35).toNatClampNeg))))
set_option maxRecDepth 100000 in
set_option maxHeartbeats 4000000 in
theorem tX6_byteAt (l : Launch) (g : Gx) (a : Nat → Nat) (S : RS) (N : Nat) (Q : Int32 → Prop) (h : fX6_byteAt N S Q) : MetG l g yX6_byteAt wsX6_byteAt rmX6_byteAt [.ref (a 50)] (mW g a S) (fun _ : Unit => mW g a S) (qI (fun (r : Int32) (_ : Unit) => Q r)) 0 0 := by
  refine met_of (cc := cX6_byteAt) (own := RX6) (nL := 1) (ret := (some .int)) (lv := [(0, .ref (a 50))]) (by decide) rfl rfl (Nat.le_of_ble_eq_true rfl) rfl ?_
  intro x C hl hZ
  subst hl
  unfold fX6_byteAt at h
  refine r_aload_n C dX6_byteAt_0 rfl ?_
  refine r_get (cn := RX6) (T := TX6) (N := 43) (ci := 6) C uwX6_byteAt_6 0 rfl rfl 35 (by decide) kwX6_byteAt_0 (v := .int (S.1 35)) rfl dX6_byteAt_1 ?_
  refine r_aload_n C dX6_byteAt_4 rfl ?_
  refine r_get (cn := RX6) (T := TX6) (N := 43) (ci := 6) C uwX6_byteAt_6 0 rfl rfl 2 (by decide) kwX6_byteAt_2 (v := .int (S.1 2)) rfl dX6_byteAt_5 ?_
  refine r_icmp_ge (tgt := 23) C dX6_byteAt_8 (by decide) (fun c1 => ?_) (fun c1 => ?_)
  · have h := h.1 c1
    refine r_iconst (v := 0) C dX6_byteAt_23 (by decide) ?_
    exact r_iret C hZ (u := ()) h rfl dX6_byteAt_24
  · have h := h.2 c1
    refine r_aload_n C dX6_byteAt_11 rfl ?_
    refine r_get (cn := RX6) (T := TX6) (N := 43) (ci := 6) C uwX6_byteAt_6 0 rfl rfl 1 (by decide) kwX6_byteAt_3 (v := .ref (a 1)) rfl dX6_byteAt_12 ?_
    refine r_aload_n C dX6_byteAt_15 rfl ?_
    refine r_get (cn := RX6) (T := TX6) (N := 43) (ci := 6) C uwX6_byteAt_6 0 rfl rfl 35 (by decide) kwX6_byteAt_0 (v := .int (S.1 35)) rfl dX6_byteAt_16 ?_
    obtain ⟨hi2, h⟩ := h
    refine r_iald C 1 rfl hi2 dX6_byteAt_19 ?_
    refine r_goto (tgt := 24) C dX6_byteAt_20 (by decide) ?_
    exact r_iret C hZ (u := ()) h rfl dX6_byteAt_24
def rmX6_wrong : Room := { frames := 0, cells := 0, slots := 0, locals := 0 }
theorem kwX6_wrong_0 : Cond.fieldLink RX6 104 "WantsBenchModel" "fault" "I" ∈ wsX6_wrong := by decide +kernel
theorem uwX6_wrong_6 : ∀ w ∈ wsX60, w ∈ wsX6_wrong := by decide +kernel
theorem kwX6_wrong_2 : Cond.fieldLink RX6 101 "WantsBenchModel" "at" "I" ∈ wsX6_wrong := by decide +kernel
def fX6_wrong (N : Nat) (S : RS) (Q : Int64 → RS → Prop) : Prop :=
  ((0 ≤ (S.1 37) → (∀ S2 : RS, S2 = sI S 37 (S.1 37) → Q 0 S2)) ∧ (¬ 0 ≤ (S.1 37) → (∀ S3 : RS, S3 = sI S 37 (S.1 35) → Q 0 S3)))
set_option maxRecDepth 100000 in
set_option maxHeartbeats 4000000 in
theorem tX6_wrong (l : Launch) (g : Gx) (a : Nat → Nat) (S : RS) (N : Nat) (Q : Int64 → RS → Prop) (h : fX6_wrong N S Q) : MetG l g yX6_wrong wsX6_wrong rmX6_wrong [.ref (a 50)] (mW g a S) (fun u : RS => mW g a u) (qL (fun (r : Int64) (u : RS) => Q r u)) 0 0 := by
  refine met_of (cc := cX6_wrong) (own := RX6) (nL := 1) (ret := (some .long)) (lv := [(0, .ref (a 50))]) (by decide) rfl rfl (Nat.le_of_ble_eq_true rfl) rfl ?_
  intro x C hl hZ
  subst hl
  unfold fX6_wrong at h
  refine r_aload_n C dX6_wrong_0 rfl ?_
  refine r_aload_n C dX6_wrong_1 rfl ?_
  refine r_get (cn := RX6) (T := TX6) (N := 43) (ci := 6) C uwX6_wrong_6 0 rfl rfl 37 (by decide) kwX6_wrong_0 (v := .int (S.1 37)) rfl dX6_wrong_2 ?_
  refine r_if_ge (tgt := 15) C dX6_wrong_5 (by decide) (fun c1 => ?_) (fun c1 => ?_)
  · have h := h.1 c1
    refine r_aload_n C dX6_wrong_15 rfl ?_
    refine r_get (cn := RX6) (T := TX6) (N := 43) (ci := 6) C uwX6_wrong_6 0 rfl rfl 37 (by decide) kwX6_wrong_0 (v := .int (S.1 37)) rfl dX6_wrong_16 ?_
    obtain ⟨S2, hS2⟩ : ∃ z : RS, z = sI S 37 (S.1 37) := ⟨_, rfl⟩
    have h := h S2 hS2
    refine r_put (cn := RX6) (T := TX6) (N := 43) (ci := 6) (ws' := mW g a S2) C uwX6_wrong_6 tyX6 tyX6_ok nmX6 0 rfl rfl 37 (by decide) kwX6_wrong_0 rfl rfl rfl (Nat.le_of_ble_eq_true rfl) dX6_wrong_19 (by rw [hS2]; rfl) ?_
    refine r_lconst (v := 0) C dX6_wrong_22 (by decide) ?_
    exact r_lret C hZ (u := S2) h rfl dX6_wrong_23
  · have h := h.2 c1
    refine r_aload_n C dX6_wrong_8 rfl ?_
    refine r_get (cn := RX6) (T := TX6) (N := 43) (ci := 6) C uwX6_wrong_6 0 rfl rfl 35 (by decide) kwX6_wrong_2 (v := .int (S.1 35)) rfl dX6_wrong_9 ?_
    refine r_goto (tgt := 19) C dX6_wrong_12 (by decide) ?_
    obtain ⟨S3, hS3⟩ : ∃ z : RS, z = sI S 37 (S.1 35) := ⟨_, rfl⟩
    have h := h S3 hS3
    refine r_put (cn := RX6) (T := TX6) (N := 43) (ci := 6) (ws' := mW g a S3) C uwX6_wrong_6 tyX6 tyX6_ok nmX6 0 rfl rfl 37 (by decide) kwX6_wrong_0 rfl rfl rfl (Nat.le_of_ble_eq_true rfl) dX6_wrong_19 (by rw [hS3]; rfl) ?_
    refine r_lconst (v := 0) C dX6_wrong_22 (by decide) ?_
    exact r_lret C hZ (u := S3) h rfl dX6_wrong_23
def rmX6_letter : Room := { frames := 0, cells := 0, slots := 0, locals := 0 }
def fX6_letter_4b (N : Nat) (v0 : Int32) (v1 : Int64) (v3 : Int32) (R : Int64 → Int32 → Prop) (K : Int64 → Prop) (Q : Int64 → Prop) : Prop :=
  ((64 ≤ v3 → K v1) ∧ (¬ 64 ≤ v3 → ((¬ ((v3 >>> (v0 &&& 31)) &&& (1 : Int32)) = 1 → (∀ x3 : Int64, x3 = v1 ||| (0 : Int64) → (∀ x4 : Int32, x4 = v3 + 1 → R x3 x4))) ∧ (((v3 >>> (v0 &&& 31)) &&& (1 : Int32)) = 1 → (∀ x5 : Int64, x5 = v1 ||| ((1 : Int64) <<< (v3.toInt64 &&& 63)) → (∀ x6 : Int32, x6 = v3 + 1 → R x5 x6))))))
set_option maxRecDepth 100000 in
set_option maxHeartbeats 4000000 in
theorem wfX6_letter_4b {x : Nx} {g : Gx} {W0 : va_W}   {N : Nat} {v0 : Int32} {v1 : Int64} {v3 : Int32} {R : Int64 → Int32 → Prop} {K : Int64 → Prop} {Q : Int64 → Prop} (C : Cx x g cX6_letter RX6 wsX6_letter rmX6_letter yX6_letter (some .long) 4) (hZ : Zq x g W0 (fun _ : Unit => ([] : va_W)) (qL (fun (r : Int64) (_ : Unit) => Q r)) 0 0) (hR : ∀ (w1 : Int64) (w3 : Int32), R w1 w3 → St x 0 0 (([] : va_W)) [(0, .int v0), (1, .long w1), (3, .int w3)] [] 4) (hK : ∀ (w1 : Int64), K w1 → St x 0 0 (([] : va_W)) [(1, .long w1)] [] 35) (h : fX6_letter_4b N v0 v1 v3 R K Q) : St x 0 0 (([] : va_W)) [(0, .int v0), (1, .long v1), (3, .int v3)] [] 4 := by
  unfold fX6_letter_4b at h
  refine r_iload_n C dX6_letter_4 rfl ?_
  refine r_bipush (v := 64) C dX6_letter_5 (by decide) ?_
  refine r_icmp_ge (tgt := 35) C dX6_letter_7 (by decide) (fun c1 => ?_) (fun c1 => ?_)
  · have h := h.1 c1
    refine r_sub [1] (lv' := [(1, .long v1)]) rfl ?_
    exact hK v1 h
  · have h := h.2 c1
    refine r_lload_n C dX6_letter_10 rfl ?_
    refine r_iload_n C dX6_letter_11 rfl ?_
    refine r_iload_n C dX6_letter_12 rfl ?_
    refine r_ishr C dX6_letter_13 ?_
    refine r_iconst (v := 1) C dX6_letter_14 (by decide) ?_
    refine r_iand C dX6_letter_15 ?_
    refine r_iconst (v := 1) C dX6_letter_16 (by decide) ?_
    refine r_icmp_ne (tgt := 26) C dX6_letter_17 (by decide) (fun c2 => ?_) (fun c2 => ?_)
    · have h := h.1 c2
      refine r_lconst (v := 0) C dX6_letter_26 (by decide) ?_
      refine r_lor C dX6_letter_27 ?_
      refine r_topl (fun x3 ex3 => ?_)
      have h := h x3 ex3
      refine r_lstore_n (lv' := [(0, .int v0), (1, .long x3), (3, .int v3)]) C dX6_letter_28 [some 0, none, some 2] (by decide) rfl rfl ?_
      obtain ⟨x4, ex4⟩ : ∃ z : Int32, z = v3 + 1 := ⟨_, rfl⟩
      have h := h x4 ex4
      refine r_iinc (v := x4) (lv' := [(0, .int v0), (1, .long x3), (3, .int x4)]) C dX6_letter_29 rfl (by rw [ex4]; rfl) [some 0, some 1, none] (by decide) rfl rfl ?_
      refine r_goto (tgt := 4) C dX6_letter_32 (by decide) ?_
      exact hR x3 x4 h
    · have h := h.2 c2
      refine r_lconst (v := 1) C dX6_letter_20 (by decide) ?_
      refine r_iload_n C dX6_letter_21 rfl ?_
      refine r_lshl C dX6_letter_22 ?_
      refine r_goto (tgt := 27) C dX6_letter_23 (by decide) ?_
      refine r_lor C dX6_letter_27 ?_
      refine r_topl (fun x5 ex5 => ?_)
      have h := h x5 ex5
      refine r_lstore_n (lv' := [(0, .int v0), (1, .long x5), (3, .int v3)]) C dX6_letter_28 [some 0, none, some 2] (by decide) rfl rfl ?_
      obtain ⟨x6, ex6⟩ : ∃ z : Int32, z = v3 + 1 := ⟨_, rfl⟩
      have h := h x6 ex6
      refine r_iinc (v := x6) (lv' := [(0, .int v0), (1, .long x5), (3, .int x6)]) C dX6_letter_29 rfl (by rw [ex6]; rfl) [some 0, some 1, none] (by decide) rfl rfl ?_
      refine r_goto (tgt := 4) C dX6_letter_32 (by decide) ?_
      exact hR x5 x6 h
def fX6_letter_4 (N : Nat) (v0 : Int32) (K : Int64 → Prop) (Q : Int64 → Prop) : Nat → Int64 → Int32 → Prop
  | 0, _, _ => False
  | n + 1, v1, v3 => fX6_letter_4b N v0 v1 v3 (fun v1 v3 => fX6_letter_4 N v0 K Q n v1 v3) K Q
set_option maxRecDepth 100000 in
set_option maxHeartbeats 4000000 in
theorem wfX6_letter_4 {x : Nx} {g : Gx} {W0 : va_W}   {N : Nat} {v0 : Int32} {K : Int64 → Prop} {Q : Int64 → Prop} (C : Cx x g cX6_letter RX6 wsX6_letter rmX6_letter yX6_letter (some .long) 4) (hZ : Zq x g W0 (fun _ : Unit => ([] : va_W)) (qL (fun (r : Int64) (_ : Unit) => Q r)) 0 0) (hK : ∀ (w1 : Int64), K w1 → St x 0 0 (([] : va_W)) [(1, .long w1)] [] 35) : ∀ (n : Nat) (v1 : Int64) (v3 : Int32), fX6_letter_4 N v0 K Q n v1 v3 → St x 0 0 (([] : va_W)) [(0, .int v0), (1, .long v1), (3, .int v3)] [] 4 := by
  intro n
  induction n with
  | zero => intro v1 v3 h; exact False.elim h
  | succ n ih => intro v1 v3 h; exact wfX6_letter_4b C hZ ih hK h
def fX6_letter (N : Nat) (v0 : Int32) (Q : Int64 → Prop) : Prop :=
  (fX6_letter_4 N v0 (fun x7 => Q x7) Q N 0 0)
set_option maxRecDepth 100000 in
set_option maxHeartbeats 4000000 in
theorem tX6_letter (l : Launch) (g : Gx) (N : Nat) (v0 : Int32) (Q : Int64 → Prop) (h : fX6_letter N v0 Q) : MetG l g yX6_letter wsX6_letter rmX6_letter [.int v0] (([] : va_W)) (fun _ : Unit => ([] : va_W)) (qL (fun (r : Int64) (_ : Unit) => Q r)) 0 0 := by
  refine met_of (cc := cX6_letter) (own := RX6) (nL := 4) (ret := (some .long)) (lv := [(0, .int v0)]) (by decide) rfl rfl (Nat.le_of_ble_eq_true rfl) rfl ?_
  intro x C hl hZ
  subst hl
  unfold fX6_letter at h
  refine r_lconst (v := 0) C dX6_letter_0 (by decide) ?_
  refine r_lstore_n (lv' := [(0, .int v0), (1, .long 0)]) C dX6_letter_1 [some 0, none] (by decide) rfl rfl ?_
  refine r_iconst (v := 0) C dX6_letter_2 (by decide) ?_
  refine r_istore_n (lv' := [(0, .int v0), (1, .long 0), (3, .int 0)]) C dX6_letter_3 [some 0, some 1, none] (by decide) rfl rfl ?_
  refine wfX6_letter_4 C hZ (fun x7 h => ?_) N _ _ h
  refine r_lload_n C dX6_letter_35 rfl ?_
  exact r_lret C hZ (u := ()) h rfl dX6_letter_36
def rmX6_opens : Room := { frames := 1, cells := 0, slots := 0, locals := 20 }
theorem kwX6_opens_0 : Cond.fieldLink RX6 118 "WantsBenchModel" "open" "I" ∈ wsX6_opens := by decide +kernel
theorem uwX6_opens_6 : ∀ w ∈ wsX60, w ∈ wsX6_opens := by decide +kernel
theorem kwX6_opens_2 : Cond.fieldLink RX6 101 "WantsBenchModel" "at" "I" ∈ wsX6_opens := by decide +kernel
def fX6_opens (N : Nat) (S : RS) (Q : Int32 → RS → Prop) : Prop :=
  ((¬ (S.1 36) = 10 → (∀ S2 : RS, S2 = sI S 36 ((S.1 36) + (1 : Int32)) → (∀ S3 : RS, S3 = sI S2 35 ((S2.1 35) + (1 : Int32)) → Q 1 S3))) ∧ ((S.1 36) = 10 → (fX6_wrong N S (fun r4 S5 => Q 0 S5))))
set_option maxRecDepth 100000 in
set_option maxHeartbeats 4000000 in
theorem tX6_opens (l : Launch) (g : Gx) (a : Nat → Nat) (S : RS) (N : Nat) (Q : Int32 → RS → Prop) (h : fX6_opens N S Q) : MetG l g yX6_opens wsX6_opens rmX6_opens [.ref (a 50)] (mW g a S) (fun u : RS => mW g a u) (qI (fun (r : Int32) (u : RS) => Q r u)) 0 0 := by
  refine met_of (cc := cX6_opens) (own := RX6) (nL := 3) (ret := (some .boolean)) (lv := [(0, .ref (a 50))]) (by decide) rfl rfl (Nat.le_of_ble_eq_true rfl) rfl ?_
  intro x C hl hZ
  subst hl
  unfold fX6_opens at h
  refine r_aload_n C dX6_opens_0 rfl ?_
  refine r_get (cn := RX6) (T := TX6) (N := 43) (ci := 6) C uwX6_opens_6 0 rfl rfl 36 (by decide) kwX6_opens_0 (v := .int (S.1 36)) rfl dX6_opens_1 ?_
  refine r_bipush (v := 10) C dX6_opens_4 (by decide) ?_
  refine r_icmp_ne (tgt := 16) C dX6_opens_6 (by decide) (fun c1 => ?_) (fun c1 => ?_)
  · have h := h.1 c1
    refine r_aload_n C dX6_opens_16 rfl ?_
    refine r_dup C dX6_opens_17 rfl ?_
    refine r_get (cn := RX6) (T := TX6) (N := 43) (ci := 6) C uwX6_opens_6 0 rfl rfl 36 (by decide) kwX6_opens_0 (v := .int (S.1 36)) rfl dX6_opens_18 ?_
    refine r_iconst (v := 1) C dX6_opens_21 (by decide) ?_
    refine r_iadd C dX6_opens_22 ?_
    obtain ⟨S2, hS2⟩ : ∃ z : RS, z = sI S 36 ((S.1 36) + (1 : Int32)) := ⟨_, rfl⟩
    have h := h S2 hS2
    refine r_put (cn := RX6) (T := TX6) (N := 43) (ci := 6) (ws' := mW g a S2) C uwX6_opens_6 tyX6 tyX6_ok nmX6 0 rfl rfl 36 (by decide) kwX6_opens_0 rfl rfl rfl (Nat.le_of_ble_eq_true rfl) dX6_opens_23 (by rw [hS2]; rfl) ?_
    refine r_aload_n C dX6_opens_26 rfl ?_
    refine r_dup C dX6_opens_27 rfl ?_
    refine r_get (cn := RX6) (T := TX6) (N := 43) (ci := 6) C uwX6_opens_6 0 rfl rfl 35 (by decide) kwX6_opens_2 (v := .int (S2.1 35)) rfl dX6_opens_28 ?_
    refine r_iconst (v := 1) C dX6_opens_31 (by decide) ?_
    refine r_iadd C dX6_opens_32 ?_
    obtain ⟨S3, hS3⟩ : ∃ z : RS, z = sI S2 35 ((S2.1 35) + (1 : Int32)) := ⟨_, rfl⟩
    have h := h S3 hS3
    refine r_put (cn := RX6) (T := TX6) (N := 43) (ci := 6) (ws' := mW g a S3) C uwX6_opens_6 tyX6 tyX6_ok nmX6 0 rfl rfl 35 (by decide) kwX6_opens_2 rfl rfl rfl (Nat.le_of_ble_eq_true rfl) dX6_opens_33 (by rw [hS3]; rfl) ?_
    refine r_iconst (v := 1) C dX6_opens_36 (by decide) ?_
    exact r_zret C hZ (u := S3) (by decide) h rfl dX6_opens_37
  · have h := h.2 c1
    refine r_aload_n C dX6_opens_9 rfl ?_
    refine callW_L C (run_V (As := []) (rest := []) (ci := 6) C hZ.2.2 (tX6_wrong _ g a S N _ h) gX6_opens_X6_wrong rfl dsX6_wrong rfl rfl ⟨(Nat.le_of_ble_eq_true rfl), (Nat.le_of_ble_eq_true rfl)⟩ rfl (List.mem_of_getElem? (i := 0) rfl) rfl (Nat.le_of_ble_eq_true rfl) dX6_opens_10 ⟨Nat.zero_le _, Nat.zero_le _⟩) (fun r4 S5 h => ?_)
    show St x 0 0 (mW g a S5) _ _ 13
    refine r_lstore_n (lv' := [(1, .long r4)]) C dX6_opens_13 [none] (by decide) rfl rfl ?_
    refine r_iconst (v := 0) C dX6_opens_14 (by decide) ?_
    exact r_zret C hZ (u := S5) (by decide) h rfl dX6_opens_15
