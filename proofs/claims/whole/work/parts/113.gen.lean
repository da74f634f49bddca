def rmX6_kept : Room := { frames := 2, cells := 0, slots := 0, locals := 50 }
theorem kwX6_kept_0 : Cond.fieldLink RX6 87 "WantsBenchModel" "wants" "I" ∈ wsX6_kept := by decide +kernel
theorem uwX6_kept_6 : ∀ w ∈ wsX60, w ∈ wsX6_kept := by decide +kernel
def fX6_kept_45 (N : Nat) (S : RS) (v1 : Int32) (v3 : Int32) (k0 : Int32) (R : Int32 → Int32 → Prop) (K : Int32 → Prop) (Q : Int32 → Prop) : Prop :=
  (∀ x6 : Int32, x6 = k0 + (0 : Int32) → (∀ x7 : Int32, x7 = v3 + 1 → R x6 x7))
set_option maxRecDepth 100000 in
set_option maxHeartbeats 4000000 in
theorem wfX6_kept_45 {x : Nx} {g : Gx} {W0 : va_W} {a : Nat → Nat} {S : RS} {N : Nat} {v1 : Int32} {v3 : Int32} {k0 : Int32} {R : Int32 → Int32 → Prop} {K : Int32 → Prop} {Q : Int32 → Prop} (C : Cx x g cX6_kept RX6 wsX6_kept rmX6_kept yX6_kept (some .int) 4) (hZ : Zq x g W0 (fun _ : Unit => mW g a S) (qI (fun (r : Int32) (_ : Unit) => Q r)) 0 0) (hR : ∀ (w2 : Int32) (w3 : Int32), R w2 w3 → St x 0 0 (mW g a S) [(0, .ref (a 50)), (1, .int v1), (2, .int w2), (3, .int w3)] [] 13) (hK : ∀ (w2 : Int32), K w2 → St x 0 0 (mW g a S) [(2, .int w2)] [] 54) (h : fX6_kept_45 N S v1 v3 k0 R K Q) : St x 0 0 (mW g a S) [(0, .ref (a 50)), (1, .int v1), (3, .int v3)] [.int k0] 45 := by
  unfold fX6_kept_45 at h
  refine r_iconst (v := 0) C dX6_kept_45 (by decide) ?_
  refine r_iadd C dX6_kept_46 ?_
  refine r_topi (fun x6 ex6 => ?_)
  have h := h x6 ex6
  refine r_istore_n (lv' := [(0, .ref (a 50)), (1, .int v1), (2, .int x6), (3, .int v3)]) C dX6_kept_47 [some 0, some 1, none, some 2] (by decide) rfl rfl ?_
  obtain ⟨x7, ex7⟩ : ∃ z : Int32, z = v3 + 1 := ⟨_, rfl⟩
  have h := h x7 ex7
  refine r_iinc (v := x7) (lv' := [(0, .ref (a 50)), (1, .int v1), (2, .int x6), (3, .int x7)]) C dX6_kept_48 rfl (by rw [ex7]; rfl) [some 0, some 1, some 2, none] (by decide) rfl rfl ?_
  refine r_goto (tgt := 13) C dX6_kept_51 (by decide) ?_
  exact hR x6 x7 h
def fX6_kept_13b (N : Nat) (S : RS) (v1 : Int32) (v2 : Int32) (v3 : Int32) (R : Int32 → Int32 → Prop) (K : Int32 → Prop) (Q : Int32 → Prop) : Prop :=
  (((S.1 13) ≤ v3 → K v2) ∧ (¬ (S.1 13) ≤ v3 → (fX6_isThere N S v3 v1 (fun r4 => ((r4 = 0 → (fX6_kept_45 N S v1 v3 v2 R K Q)) ∧ (¬ r4 = 0 → (fX6_brokenIn N S v3 (fun r8 => ((¬ r8 = (-4) → (fX6_kept_45 N S v1 v3 v2 R K Q)) ∧ (r8 = (-4) → (∀ x10 : Int32, x10 = v2 + (1 : Int32) → (∀ x11 : Int32, x11 = v3 + 1 → R x10 x11))))))))))))
set_option maxRecDepth 100000 in
set_option maxHeartbeats 4000000 in
theorem wfX6_kept_13b {x : Nx} {g : Gx} {W0 : va_W} {a : Nat → Nat} {S : RS} {N : Nat} {v1 : Int32} {v2 : Int32} {v3 : Int32} {R : Int32 → Int32 → Prop} {K : Int32 → Prop} {Q : Int32 → Prop} (C : Cx x g cX6_kept RX6 wsX6_kept rmX6_kept yX6_kept (some .int) 4) (hZ : Zq x g W0 (fun _ : Unit => mW g a S) (qI (fun (r : Int32) (_ : Unit) => Q r)) 0 0) (hR : ∀ (w2 : Int32) (w3 : Int32), R w2 w3 → St x 0 0 (mW g a S) [(0, .ref (a 50)), (1, .int v1), (2, .int w2), (3, .int w3)] [] 13) (hK : ∀ (w2 : Int32), K w2 → St x 0 0 (mW g a S) [(2, .int w2)] [] 54) (h : fX6_kept_13b N S v1 v2 v3 R K Q) : St x 0 0 (mW g a S) [(0, .ref (a 50)), (1, .int v1), (2, .int v2), (3, .int v3)] [] 13 := by
  unfold fX6_kept_13b at h
  refine r_iload_n C dX6_kept_13 rfl ?_
  refine r_aload_n C dX6_kept_14 rfl ?_
  refine r_get (cn := RX6) (T := TX6) (N := 43) (ci := 6) C uwX6_kept_6 0 rfl rfl 13 (by decide) kwX6_kept_0 (v := .int (S.1 13)) rfl dX6_kept_15 ?_
  refine r_icmp_ge (tgt := 54) C dX6_kept_18 (by decide) (fun c3 => ?_) (fun c3 => ?_)
  · have h := h.1 c3
    refine r_sub [2] (lv' := [(2, .int v2)]) rfl ?_
    exact hK v2 h
  · have h := h.2 c3
    refine r_iload_n C dX6_kept_21 rfl ?_
    refine r_aload_n C dX6_kept_22 rfl ?_
    refine r_iload_n C dX6_kept_23 rfl ?_
    refine r_iload_n C dX6_kept_24 rfl ?_
    refine callR_I C (run_V (As := [.int v3, .int v1]) (rest := [.int v2]) (ci := 6) C hZ.2.2 (tX6_isThere _ g a S N v3 v1 _ h) gX6_kept_X6_isThere rfl dsX6_isThere rfl rfl ⟨(Nat.le_of_ble_eq_true rfl), (Nat.le_of_ble_eq_true rfl)⟩ rfl (List.mem_of_getElem? (i := 0) rfl) rfl (Nat.le_of_ble_eq_true rfl) dX6_kept_25 ⟨Nat.zero_le _, Nat.zero_le _⟩) (List.Sublist.refl _) (fun _ => rfl) (fun r4 _ h => ?_)
    refine r_if_eq (tgt := 45) C dX6_kept_28 (by decide) (fun c5 => ?_) (fun c5 => ?_)
    · have h := h.1 c5
      refine r_sub [0, 1, 3] (lv' := [(0, .ref (a 50)), (1, .int v1), (3, .int v3)]) rfl ?_
      exact wfX6_kept_45 C hZ hR hK h
    · have h := h.2 c5
      refine r_aload_n C dX6_kept_31 rfl ?_
      refine r_iload_n C dX6_kept_32 rfl ?_
      refine callR_I C (run_V (As := [.int v3]) (rest := [.int v2]) (ci := 6) C hZ.2.2 (tX6_brokenIn _ g a S N v3 _ h) gX6_kept_X6_brokenIn rfl dsX6_brokenIn rfl rfl ⟨(Nat.le_of_ble_eq_true rfl), (Nat.le_of_ble_eq_true rfl)⟩ rfl (List.mem_of_getElem? (i := 0) rfl) rfl (Nat.le_of_ble_eq_true rfl) dX6_kept_33 ⟨Nat.zero_le _, Nat.zero_le _⟩) (List.Sublist.refl _) (fun _ => rfl) (fun r8 _ h => ?_)
      refine r_bipush (v := (-4)) C dX6_kept_36 (by decide) ?_
      refine r_icmp_ne (tgt := 45) C dX6_kept_38 (by decide) (fun c9 => ?_) (fun c9 => ?_)
      · have h := h.1 c9
        refine r_sub [0, 1, 3] (lv' := [(0, .ref (a 50)), (1, .int v1), (3, .int v3)]) rfl ?_
        exact wfX6_kept_45 C hZ hR hK h
      · have h := h.2 c9
        refine r_iconst (v := 1) C dX6_kept_41 (by decide) ?_
        refine r_goto (tgt := 46) C dX6_kept_42 (by decide) ?_
        refine r_iadd C dX6_kept_46 ?_
        refine r_topi (fun x10 ex10 => ?_)
        have h := h x10 ex10
        refine r_istore_n (lv' := [(0, .ref (a 50)), (1, .int v1), (2, .int x10), (3, .int v3)]) C dX6_kept_47 [some 0, some 1, none, some 3] (by decide) rfl rfl ?_
        obtain ⟨x11, ex11⟩ : ∃ z : Int32, z = v3 + 1 := ⟨_, rfl⟩
        have h := h x11 ex11
        refine r_iinc (v := x11) (lv' := [(0, .ref (a 50)), (1, .int v1), (2, .int x10), (3, .int x11)]) C dX6_kept_48 rfl (by rw [ex11]; rfl) [some 0, some 1, some 2, none] (by decide) rfl rfl ?_
        refine r_goto (tgt := 13) C dX6_kept_51 (by decide) ?_
        exact hR x10 x11 h
def fX6_kept_13 (N : Nat) (S : RS) (v1 : Int32) (K : Int32 → Prop) (Q : Int32 → Prop) : Nat → Int32 → Int32 → Prop
  | 0, _, _ => False
  | n + 1, v2, v3 => fX6_kept_13b N S v1 v2 v3 (fun v2 v3 => fX6_kept_13 N S v1 K Q n v2 v3) K Q
set_option maxRecDepth 100000 in
set_option maxHeartbeats 4000000 in
theorem wfX6_kept_13 {x : Nx} {g : Gx} {W0 : va_W} {a : Nat → Nat} {S : RS} {N : Nat} {v1 : Int32} {K : Int32 → Prop} {Q : Int32 → Prop} (C : Cx x g cX6_kept RX6 wsX6_kept rmX6_kept yX6_kept (some .int) 4) (hZ : Zq x g W0 (fun _ : Unit => mW g a S) (qI (fun (r : Int32) (_ : Unit) => Q r)) 0 0) (hK : ∀ (w2 : Int32), K w2 → St x 0 0 (mW g a S) [(2, .int w2)] [] 54) : ∀ (n : Nat) (v2 : Int32) (v3 : Int32), fX6_kept_13 N S v1 K Q n v2 v3 → St x 0 0 (mW g a S) [(0, .ref (a 50)), (1, .int v1), (2, .int v2), (3, .int v3)] [] 13 := by
  intro n
  induction n with
  | zero => intro v2 v3 h; exact False.elim h
  | succ n ih => intro v2 v3 h; exact wfX6_kept_13b C hZ ih hK h
def fX6_kept (N : Nat) (S : RS) (v1 : Int32) (Q : Int32 → Prop) : Prop :=
  (fX6_isDay N v1 (fun r1 => ((¬ r1 = 0 → (fX6_kept_13 N S v1 (fun x12 => Q x12) Q N 0 0)) ∧ (r1 = 0 → Q (-1)))))
set_option maxRecDepth 100000 in
set_option maxHeartbeats 4000000 in
theorem tX6_kept (l : Launch) (g : Gx) (a : Nat → Nat) (S : RS) (N : Nat) (v1 : Int32) (Q : Int32 → Prop) (h : fX6_kept N S v1 Q) : MetG l g yX6_kept wsX6_kept rmX6_kept [.ref (a 50), .int v1] (mW g a S) (fun _ : Unit => mW g a S) (qI (fun (r : Int32) (_ : Unit) => Q r)) 0 0 := by
  refine met_of (cc := cX6_kept) (own := RX6) (nL := 4) (ret := (some .int)) (lv := [(0, .ref (a 50)), (1, .int v1)]) (by decide) rfl rfl (Nat.le_of_ble_eq_true rfl) rfl ?_
  intro x C hl hZ
  subst hl
  unfold fX6_kept at h
  refine r_iload_n C dX6_kept_0 rfl ?_
  refine callR_I C (run_S (As := [.int v1]) (rest := []) C hZ.2.2 (tX6_isDay _ g N v1 _ h) gX6_kept_X6_isDay rfl dsX6_isDay rfl rfl ⟨(Nat.le_of_ble_eq_true rfl), (Nat.le_of_ble_eq_true rfl)⟩ rfl (Nat.le_of_ble_eq_true rfl) dX6_kept_1 ⟨Nat.zero_le _, Nat.zero_le _⟩) (List.nil_sublist _) (fun _ => rfl) (fun r1 _ h => ?_)
  refine r_if_ne (tgt := 9) C dX6_kept_4 (by decide) (fun c2 => ?_) (fun c2 => ?_)
  · have h := h.1 c2
    refine r_iconst (v := 0) C dX6_kept_9 (by decide) ?_
    refine r_istore_n (lv' := [(0, .ref (a 50)), (1, .int v1), (2, .int 0)]) C dX6_kept_10 [some 0, some 1, none] (by decide) rfl rfl ?_
    refine r_iconst (v := 0) C dX6_kept_11 (by decide) ?_
    refine r_istore_n (lv' := [(0, .ref (a 50)), (1, .int v1), (2, .int 0), (3, .int 0)]) C dX6_kept_12 [some 0, some 1, some 2, none] (by decide) rfl rfl ?_
    refine wfX6_kept_13 C hZ (fun x12 h => ?_) N _ _ h
    refine r_iload_n C dX6_kept_54 rfl ?_
    exact r_iret C hZ (u := ()) h rfl dX6_kept_55
  · have h := h.2 c2
    refine r_iconst (v := (-1)) C dX6_kept_7 (by decide) ?_
    exact r_iret C hZ (u := ()) h rfl dX6_kept_8
def rmX6_isPart : Room := { frames := 0, cells := 0, slots := 0, locals := 0 }
theorem kwX6_isPart_0 : Cond.fieldLink RX6 247 "WantsBenchModel" "parts" "I" ∈ wsX6_isPart := by decide +kernel
theorem uwX6_isPart_6 : ∀ w ∈ wsX60, w ∈ wsX6_isPart := by decide +kernel
def fX6_isPart (N : Nat) (S : RS) (v1 : Int32) (Q : Int32 → Prop) : Prop :=
  ((v1 < 0 → Q 0) ∧ (¬ v1 < 0 → (((S.1 32) ≤ v1 → Q 0) ∧ (¬ (S.1 32) ≤ v1 → Q 1))))
set_option maxRecDepth 100000 in
set_option maxHeartbeats 4000000 in
theorem tX6_isPart (l : Launch) (g : Gx) (a : Nat → Nat) (S : RS) (N : Nat) (v1 : Int32) (Q : Int32 → Prop) (h : fX6_isPart N S v1 Q) : MetG l g yX6_isPart wsX6_isPart rmX6_isPart [.ref (a 50), .int v1] (mW g a S) (fun _ : Unit => mW g a S) (qI (fun (r : Int32) (_ : Unit) => Q r)) 0 0 := by
  refine met_of (cc := cX6_isPart) (own := RX6) (nL := 2) (ret := (some .boolean)) (lv := [(0, .ref (a 50)), (1, .int v1)]) (by decide) rfl rfl (Nat.le_of_ble_eq_true rfl) rfl ?_
  intro x C hl hZ
  subst hl
  unfold fX6_isPart at h
  refine r_iload_n C dX6_isPart_0 rfl ?_
  refine r_if_lt (tgt := 16) C dX6_isPart_1 (by decide) (fun c1 => ?_) (fun c1 => ?_)
  · have h := h.1 c1
    refine r_iconst (v := 0) C dX6_isPart_16 (by decide) ?_
    exact r_zret C hZ (u := ()) (by decide) h rfl dX6_isPart_17
  · have h := h.2 c1
    refine r_iload_n C dX6_isPart_4 rfl ?_
    refine r_aload_n C dX6_isPart_5 rfl ?_
    refine r_get (cn := RX6) (T := TX6) (N := 43) (ci := 6) C uwX6_isPart_6 0 rfl rfl 32 (by decide) kwX6_isPart_0 (v := .int (S.1 32)) rfl dX6_isPart_6 ?_
    refine r_icmp_ge (tgt := 16) C dX6_isPart_9 (by decide) (fun c2 => ?_) (fun c2 => ?_)
    · have h := h.1 c2
      refine r_iconst (v := 0) C dX6_isPart_16 (by decide) ?_
      exact r_zret C hZ (u := ()) (by decide) h rfl dX6_isPart_17
    · have h := h.2 c2
      refine r_iconst (v := 1) C dX6_isPart_12 (by decide) ?_
      refine r_goto (tgt := 17) C dX6_isPart_13 (by decide) ?_
      exact r_zret C hZ (u := ()) (by decide) h rfl dX6_isPart_17
def rmX6_part : Room := { frames := 0, cells := 0, slots := 0, locals := 0 }
theorem kwX6_part_0 : Cond.fieldLink RX6 247 "WantsBenchModel" "parts" "I" ∈ wsX6_part := by decide +kernel
theorem uwX6_part_6 : ∀ w ∈ wsX60, w ∈ wsX6_part := by decide +kernel
def fX6_part (N : Nat) (S : RS) (Q : Int32 → RS → Prop) : Prop :=
  ((¬ (S.1 32) = 20 → (∀ S2 : RS, S2 = sI S 32 ((S.1 32) + (1 : Int32)) → Q ((S2.1 32) - (1 : Int32)) S2)) ∧ ((S.1 32) = 20 → Q (-2) S))
set_option maxRecDepth 100000 in
set_option maxHeartbeats 4000000 in
theorem tX6_part (l : Launch) (g : Gx) (a : Nat → Nat) (S : RS) (N : Nat) (Q : Int32 → RS → Prop) (h : fX6_part N S Q) : MetG l g yX6_part wsX6_part rmX6_part [.ref (a 50)] (mW g a S) (fun u : RS => mW g a u) (qI (fun (r : Int32) (u : RS) => Q r u)) 0 0 := by
  refine met_of (cc := cX6_part) (own := RX6) (nL := 1) (ret := (some .int)) (lv := [(0, .ref (a 50))]) (by decide) rfl rfl (Nat.le_of_ble_eq_true rfl) rfl ?_
  intro x C hl hZ
  subst hl
  unfold fX6_part at h
  refine r_aload_n C dX6_part_0 rfl ?_
  refine r_get (cn := RX6) (T := TX6) (N := 43) (ci := 6) C uwX6_part_6 0 rfl rfl 32 (by decide) kwX6_part_0 (v := .int (S.1 32)) rfl dX6_part_1 ?_
  refine r_bipush (v := 20) C dX6_part_4 (by decide) ?_
  refine r_icmp_ne (tgt := 12) C dX6_part_6 (by decide) (fun c1 => ?_) (fun c1 => ?_)
  · have h := h.1 c1
    refine r_aload_n C dX6_part_12 rfl ?_
    refine r_dup C dX6_part_13 rfl ?_
    refine r_get (cn := RX6) (T := TX6) (N := 43) (ci := 6) C uwX6_part_6 0 rfl rfl 32 (by decide) kwX6_part_0 (v := .int (S.1 32)) rfl dX6_part_14 ?_
    refine r_iconst (v := 1) C dX6_part_17 (by decide) ?_
    refine r_iadd C dX6_part_18 ?_
    obtain ⟨S2, hS2⟩ : ∃ z : RS, z = sI S 32 ((S.1 32) + (1 : Int32)) := ⟨_, rfl⟩
    have h := h S2 hS2
    refine r_put (cn := RX6) (T := TX6) (N := 43) (ci := 6) (ws' := mW g a S2) C uwX6_part_6 tyX6 tyX6_ok nmX6 0 rfl rfl 32 (by decide) kwX6_part_0 rfl rfl rfl (Nat.le_of_ble_eq_true rfl) dX6_part_19 (by rw [hS2]; rfl) ?_
    refine r_aload_n C dX6_part_22 rfl ?_
    refine r_get (cn := RX6) (T := TX6) (N := 43) (ci := 6) C uwX6_part_6 0 rfl rfl 32 (by decide) kwX6_part_0 (v := .int (S2.1 32)) rfl dX6_part_23 ?_
    refine r_iconst (v := 1) C dX6_part_26 (by decide) ?_
    refine r_isub C dX6_part_27 ?_
    exact r_iret C hZ (u := S2) h rfl dX6_part_28
  · have h := h.2 c1
    refine r_bipush (v := (-2)) C dX6_part_9 (by decide) ?_
    exact r_iret C hZ (u := S) h rfl dX6_part_11
def rmX6_use : Room := { frames := 1, cells := 0, slots := 0, locals := 22 }
theorem kwX6_use_0 : Cond.fieldLink RX6 72 "WantsBenchModel" "uses" "[I" ∈ wsX6_use := by decide +kernel
theorem uwX6_use_6 : ∀ w ∈ wsX60, w ∈ wsX6_use := by decide +kernel
def fX6_use (N : Nat) (S : RS) (v1 : Int32) (v2 : Int32) (v3 : Int32) (Q : Int32 → RS → Prop) : Prop :=
  (fX6_isPart N S v1 (fun r1 => ((r1 = 0 → Q (-1) S) ∧ (¬ r1 = 0 → (fX6_within N v2 0 (v1 - (1 : Int32)) (fun r3 => ((r3 = 0 → Q (-1) S) ∧ (¬ r3 = 0 → (fX6_within N v3 0 1 (fun r5 => ((¬ r5 = 0 → (vp_in v1 20 ∧ (∀ x8 : Int32, x8 = ((S.2.1 33 v1.toNatClampNeg) >>> (v2 &&& 31)) &&& (1 : Int32) → (vp_in v1 20 ∧ (vp_in v1 20 ∧ (∀ S11 : RS, S11 = sA S 33 (upd (S.2.1 33) v1.toNatClampNeg (((S.2.1 33 v1.toNatClampNeg) &&& (((1 : Int32) <<< (v2 &&& 31)) ^^^ (-1 : Int32))) ||| (v3 <<< (v2 &&& 31)))) → Q x8 S11)))))) ∧ (r5 = 0 → Q (-1) S))))))))))))
set_option maxRecDepth 100000 in
set_option maxHeartbeats 4000000 in
theorem tX6_use (l : Launch) (g : Gx) (a : Nat → Nat) (S : RS) (N : Nat) (v1 : Int32) (v2 : Int32) (v3 : Int32) (Q : Int32 → RS → Prop) (h : fX6_use N S v1 v2 v3 Q) : MetG l g yX6_use wsX6_use rmX6_use [.ref (a 50), .int v1, .int v2, .int v3] (mW g a S) (fun u : RS => mW g a u) (qI (fun (r : Int32) (u : RS) => Q r u)) 0 0 := by
  refine met_of (cc := cX6_use) (own := RX6) (nL := 5) (ret := (some .int)) (lv := [(0, .ref (a 50)), (1, .int v1), (2, .int v2), (3, .int v3)]) (by decide) rfl rfl (Nat.le_of_ble_eq_true rfl) rfl ?_
  intro x C hl hZ
  subst hl
  unfold fX6_use at h
  refine r_aload_n C dX6_use_0 rfl ?_
  refine r_iload_n C dX6_use_1 rfl ?_
  refine callR_I C (run_V (As := [.int v1]) (rest := []) (ci := 6) C hZ.2.2 (tX6_isPart _ g a S N v1 _ h) gX6_use_X6_isPart rfl dsX6_isPart rfl rfl ⟨(Nat.le_of_ble_eq_true rfl), (Nat.le_of_ble_eq_true rfl)⟩ rfl (List.mem_of_getElem? (i := 0) rfl) rfl (Nat.le_of_ble_eq_true rfl) dX6_use_2 ⟨Nat.zero_le _, Nat.zero_le _⟩) (List.Sublist.refl _) (fun _ => rfl) (fun r1 _ h => ?_)
  refine r_if_eq (tgt := 28) C dX6_use_5 (by decide) (fun c2 => ?_) (fun c2 => ?_)
  · have h := h.1 c2
    refine r_iconst (v := (-1)) C dX6_use_28 (by decide) ?_
    exact r_iret C hZ (u := S) h rfl dX6_use_29
  · have h := h.2 c2
    refine r_iload_n C dX6_use_8 rfl ?_
    refine r_iconst (v := 0) C dX6_use_9 (by decide) ?_
    refine r_iload_n C dX6_use_10 rfl ?_
    refine r_iconst (v := 1) C dX6_use_11 (by decide) ?_
    refine r_isub C dX6_use_12 ?_
    refine callR_I C (run_S (As := [.int v2, .int 0, .int (v1 - (1 : Int32))]) (rest := []) C hZ.2.2 (tX6_within _ g N v2 0 (v1 - (1 : Int32)) _ h) gX6_use_X6_within rfl dsX6_within rfl rfl ⟨(Nat.le_of_ble_eq_true rfl), (Nat.le_of_ble_eq_true rfl)⟩ rfl (Nat.le_of_ble_eq_true rfl) dX6_use_13 ⟨Nat.zero_le _, Nat.zero_le _⟩) (List.nil_sublist _) (fun _ => rfl) (fun r3 _ h => ?_)
    refine r_if_eq (tgt := 28) C dX6_use_16 (by decide) (fun c4 => ?_) (fun c4 => ?_)
    · have h := h.1 c4
      refine r_iconst (v := (-1)) C dX6_use_28 (by decide) ?_
      exact r_iret C hZ (u := S) h rfl dX6_use_29
    · have h := h.2 c4
      refine r_iload_n C dX6_use_19 rfl ?_
      refine r_iconst (v := 0) C dX6_use_20 (by decide) ?_
      refine r_iconst (v := 1) C dX6_use_21 (by decide) ?_
      refine callR_I C (run_S (As := [.int v3, .int 0, .int 1]) (rest := []) C hZ.2.2 (tX6_within _ g N v3 0 1 _ h) gX6_use_X6_within rfl dsX6_within rfl rfl ⟨(Nat.le_of_ble_eq_true rfl), (Nat.le_of_ble_eq_true rfl)⟩ rfl (Nat.le_of_ble_eq_true rfl) dX6_use_22 ⟨Nat.zero_le _, Nat.zero_le _⟩) (List.nil_sublist _) (fun _ => rfl) (fun r5 _ h => ?_)
      refine r_if_ne (tgt := 30) C dX6_use_25 (by decide) (fun c6 => ?_) (fun c6 => ?_)
      · have h := h.1 c6
        refine r_aload_n C dX6_use_30 rfl ?_
        refine r_get (cn := RX6) (T := TX6) (N := 43) (ci := 6) C uwX6_use_6 0 rfl rfl 33 (by decide) kwX6_use_0 (v := .ref (a 33)) rfl dX6_use_31 ?_
        refine r_iload_n C dX6_use_34 rfl ?_
        obtain ⟨hi7, h⟩ := h
        refine r_iald C 21 rfl hi7 dX6_use_35 ?_
        refine r_iload_n C dX6_use_36 rfl ?_
        refine r_ishr C dX6_use_37 ?_
        refine r_iconst (v := 1) C dX6_use_38 (by decide) ?_
        refine r_iand C dX6_use_39 ?_
        refine r_topi (fun x8 ex8 => ?_)
        have h := h x8 ex8
        refine r_istore (lv' := [(0, .ref (a 50)), (1, .int v1), (2, .int v2), (3, .int v3), (4, .int x8)]) C dX6_use_40 [some 0, some 1, some 2, some 3, none] (by decide) rfl rfl ?_
        refine r_aload_n C dX6_use_42 rfl ?_
        refine r_get (cn := RX6) (T := TX6) (N := 43) (ci := 6) C uwX6_use_6 0 rfl rfl 33 (by decide) kwX6_use_0 (v := .ref (a 33)) rfl dX6_use_43 ?_
        refine r_iload_n C dX6_use_46 rfl ?_
        refine r_aload_n C dX6_use_47 rfl ?_
        refine r_get (cn := RX6) (T := TX6) (N := 43) (ci := 6) C uwX6_use_6 0 rfl rfl 33 (by decide) kwX6_use_0 (v := .ref (a 33)) rfl dX6_use_48 ?_
        refine r_iload_n C dX6_use_51 rfl ?_
        obtain ⟨hi9, h⟩ := h
        refine r_iald C 21 rfl hi9 dX6_use_52 ?_
        refine r_iconst (v := 1) C dX6_use_53 (by decide) ?_
        refine r_iload_n C dX6_use_54 rfl ?_
        refine r_ishl C dX6_use_55 ?_
        refine r_iconst (v := (-1)) C dX6_use_56 (by decide) ?_
        refine r_ixor C dX6_use_57 ?_
        refine r_iand C dX6_use_58 ?_
        refine r_iload_n C dX6_use_59 rfl ?_
        refine r_iload_n C dX6_use_60 rfl ?_
        refine r_ishl C dX6_use_61 ?_
        refine r_ior C dX6_use_62 ?_
        obtain ⟨hi10, h⟩ := h
        obtain ⟨S11, hS11⟩ : ∃ z : RS, z = sA S 33 (upd (S.2.1 33) v1.toNatClampNeg (((S.2.1 33 v1.toNatClampNeg) &&& (((1 : Int32) <<< (v2 &&& 31)) ^^^ (-1 : Int32))) ||| (v3 <<< (v2 &&& 31)))) := ⟨_, rfl⟩
        have h := h S11 hS11
        refine r_iast (ws' := mW g a S11) C 21 rfl hi10 dX6_use_63 (by rw [hS11]; rfl) ?_
        refine r_iload C dX6_use_64 rfl ?_
        exact r_iret C hZ (u := S11) h rfl dX6_use_66
      · have h := h.2 c6
        refine r_iconst (v := (-1)) C dX6_use_28 (by decide) ?_
        exact r_iret C hZ (u := S) h rfl dX6_use_29
def rmX6_lead : Room := { frames := 1, cells := 0, slots := 0, locals := 22 }
theorem kwX6_lead_0 : Cond.fieldLink RX6 75 "WantsBenchModel" "ledTo" "[I" ∈ wsX6_lead := by decide +kernel
theorem uwX6_lead_6 : ∀ w ∈ wsX60, w ∈ wsX6_lead := by decide +kernel
def fX6_lead (N : Nat) (S : RS) (v1 : Int32) (v2 : Int32) (v3 : Int32) (Q : Int32 → RS → Prop) : Prop :=
  (fX6_isWant N S v1 (fun r1 => ((r1 = 0 → Q (-1) S) ∧ (¬ r1 = 0 → (fX6_isPart N S v2 (fun r3 => ((r3 = 0 → Q (-1) S) ∧ (¬ r3 = 0 → (fX6_within N v3 0 1 (fun r5 => ((¬ r5 = 0 → (vp_in v1 20 ∧ (∀ x8 : Int32, x8 = ((S.2.1 34 v1.toNatClampNeg) >>> (v2 &&& 31)) &&& (1 : Int32) → (vp_in v1 20 ∧ (vp_in v1 20 ∧ (∀ S11 : RS, S11 = sA S 34 (upd (S.2.1 34) v1.toNatClampNeg (((S.2.1 34 v1.toNatClampNeg) &&& (((1 : Int32) <<< (v2 &&& 31)) ^^^ (-1 : Int32))) ||| (v3 <<< (v2 &&& 31)))) → Q x8 S11)))))) ∧ (r5 = 0 → Q (-1) S))))))))))))
set_option maxRecDepth 100000 in
set_option maxHeartbeats 4000000 in
theorem tX6_lead (l : Launch) (g : Gx) (a : Nat → Nat) (S : RS) (N : Nat) (v1 : Int32) (v2 : Int32) (v3 : Int32) (Q : Int32 → RS → Prop) (h : fX6_lead N S v1 v2 v3 Q) : MetG l g yX6_lead wsX6_lead rmX6_lead [.ref (a 50), .int v1, .int v2, .int v3] (mW g a S) (fun u : RS => mW g a u) (qI (fun (r : Int32) (u : RS) => Q r u)) 0 0 := by
  refine met_of (cc := cX6_lead) (own := RX6) (nL := 5) (ret := (some .int)) (lv := [(0, .ref (a 50)), (1, .int v1), (2, .int v2), (3, .int v3)]) (by decide) rfl rfl (Nat.le_of_ble_eq_true rfl) rfl ?_
  intro x C hl hZ
  subst hl
  unfold fX6_lead at h
  refine r_aload_n C dX6_lead_0 rfl ?_
  refine r_iload_n C dX6_lead_1 rfl ?_
  refine callR_I C (run_V (As := [.int v1]) (rest := []) (ci := 6) C hZ.2.2 (tX6_isWant _ g a S N v1 _ h) gX6_lead_X6_isWant rfl dsX6_isWant rfl rfl ⟨(Nat.le_of_ble_eq_true rfl), (Nat.le_of_ble_eq_true rfl)⟩ rfl (List.mem_of_getElem? (i := 0) rfl) rfl (Nat.le_of_ble_eq_true rfl) dX6_lead_2 ⟨Nat.zero_le _, Nat.zero_le _⟩) (List.Sublist.refl _) (fun _ => rfl) (fun r1 _ h => ?_)
  refine r_if_eq (tgt := 25) C dX6_lead_5 (by decide) (fun c2 => ?_) (fun c2 => ?_)
  · have h := h.1 c2
    refine r_iconst (v := (-1)) C dX6_lead_25 (by decide) ?_
    exact r_iret C hZ (u := S) h rfl dX6_lead_26
  · have h := h.2 c2
    refine r_aload_n C dX6_lead_8 rfl ?_
    refine r_iload_n C dX6_lead_9 rfl ?_
    refine callR_I C (run_V (As := [.int v2]) (rest := []) (ci := 6) C hZ.2.2 (tX6_isPart _ g a S N v2 _ h) gX6_lead_X6_isPart rfl dsX6_isPart rfl rfl ⟨(Nat.le_of_ble_eq_true rfl), (Nat.le_of_ble_eq_true rfl)⟩ rfl (List.mem_of_getElem? (i := 0) rfl) rfl (Nat.le_of_ble_eq_true rfl) dX6_lead_10 ⟨Nat.zero_le _, Nat.zero_le _⟩) (List.Sublist.refl _) (fun _ => rfl) (fun r3 _ h => ?_)
    refine r_if_eq (tgt := 25) C dX6_lead_13 (by decide) (fun c4 => ?_) (fun c4 => ?_)
    · have h := h.1 c4
      refine r_iconst (v := (-1)) C dX6_lead_25 (by decide) ?_
      exact r_iret C hZ (u := S) h rfl dX6_lead_26
    · have h := h.2 c4
      refine r_iload_n C dX6_lead_16 rfl ?_
      refine r_iconst (v := 0) C dX6_lead_17 (by decide) ?_
      refine r_iconst (v := 1) C dX6_lead_18 (by decide) ?_
      refine callR_I C (run_S (As := [.int v3, .int 0, .int 1]) (rest := []) C hZ.2.2 (tX6_within _ g N v3 0 1 _ h) gX6_lead_X6_within rfl dsX6_within rfl rfl ⟨(Nat.le_of_ble_eq_true rfl), (Nat.le_of_ble_eq_true rfl)⟩ rfl (Nat.le_of_ble_eq_true rfl) dX6_lead_19 ⟨Nat.zero_le _, Nat.zero_le _⟩) (List.nil_sublist _) (fun _ => rfl) (fun r5 _ h => ?_)
      refine r_if_ne (tgt := 27) C dX6_lead_22 (by decide) (fun c6 => ?_) (fun c6 => ?_)
      · have h := h.1 c6
        refine r_aload_n C dX6_lead_27 rfl ?_
        refine r_get (cn := RX6) (T := TX6) (N := 43) (ci := 6) C uwX6_lead_6 0 rfl rfl 34 (by decide) kwX6_lead_0 (v := .ref (a 34)) rfl dX6_lead_28 ?_
        refine r_iload_n C dX6_lead_31 rfl ?_
        obtain ⟨hi7, h⟩ := h
        refine r_iald C 22 rfl hi7 dX6_lead_32 ?_
        refine r_iload_n C dX6_lead_33 rfl ?_
        refine r_ishr C dX6_lead_34 ?_
        refine r_iconst (v := 1) C dX6_lead_35 (by decide) ?_
        refine r_iand C dX6_lead_36 ?_
        refine r_topi (fun x8 ex8 => ?_)
        have h := h x8 ex8
        refine r_istore (lv' := [(0, .ref (a 50)), (1, .int v1), (2, .int v2), (3, .int v3), (4, .int x8)]) C dX6_lead_37 [some 0, some 1, some 2, some 3, none] (by decide) rfl rfl ?_
        refine r_aload_n C dX6_lead_39 rfl ?_
        refine r_get (cn := RX6) (T := TX6) (N := 43) (ci := 6) C uwX6_lead_6 0 rfl rfl 34 (by decide) kwX6_lead_0 (v := .ref (a 34)) rfl dX6_lead_40 ?_
        refine r_iload_n C dX6_lead_43 rfl ?_
        refine r_aload_n C dX6_lead_44 rfl ?_
        refine r_get (cn := RX6) (T := TX6) (N := 43) (ci := 6) C uwX6_lead_6 0 rfl rfl 34 (by decide) kwX6_lead_0 (v := .ref (a 34)) rfl dX6_lead_45 ?_
        refine r_iload_n C dX6_lead_48 rfl ?_
        obtain ⟨hi9, h⟩ := h
        refine r_iald C 22 rfl hi9 dX6_lead_49 ?_
        refine r_iconst (v := 1) C dX6_lead_50 (by decide) ?_
        refine r_iload_n C dX6_lead_51 rfl ?_
        refine r_ishl C dX6_lead_52 ?_
        refine r_iconst (v := (-1)) C dX6_lead_53 (by decide) ?_
        refine r_ixor C dX6_lead_54 ?_
        refine r_iand C dX6_lead_55 ?_
        refine r_iload_n C dX6_lead_56 rfl ?_
        refine r_iload_n C dX6_lead_57 rfl ?_
        refine r_ishl C dX6_lead_58 ?_
        refine r_ior C dX6_lead_59 ?_
        obtain ⟨hi10, h⟩ := h
        obtain ⟨S11, hS11⟩ : ∃ z : RS, z = sA S 34 (upd (S.2.1 34) v1.toNatClampNeg (((S.2.1 34 v1.toNatClampNeg) &&& (((1 : Int32) <<< (v2 &&& 31)) ^^^ (-1 : Int32))) ||| (v3 <<< (v2 &&& 31)))) := ⟨_, rfl⟩
        have h := h S11 hS11
        refine r_iast (ws' := mW g a S11) C 22 rfl hi10 dX6_lead_60 (by rw [hS11]; rfl) ?_
        refine r_iload C dX6_lead_61 rfl ?_
        exact r_iret C hZ (u := S11) h rfl dX6_lead_63
      · have h := h.2 c6
        refine r_iconst (v := (-1)) C dX6_lead_25 (by decide) ?_
        exact r_iret C hZ (u := S) h rfl dX6_lead_26
def rmX6_gaps : Room := { frames := 2, cells := 0, slots := 0, locals := 42 }
theorem kwX6_gaps_0 : Cond.fieldLink RX6 87 "WantsBenchModel" "wants" "I" ∈ wsX6_gaps := by decide +kernel
theorem uwX6_gaps_6 : ∀ w ∈ wsX60, w ∈ wsX6_gaps := by decide +kernel
theorem kwX6_gaps_2 : Cond.fieldLink RX6 75 "WantsBenchModel" "ledTo" "[I" ∈ wsX6_gaps := by decide +kernel
def fX6_gaps_46 (N : Nat) (S : RS) (v1 : Int32) (v3 : Int32) (k0 : Int32) (R : Int32 → Int32 → Prop) (K : Int32 → Prop) (Q : Int32 → Prop) : Prop :=
  (∀ x6 : Int32, x6 = k0 ||| (0 : Int32) → (∀ x7 : Int32, x7 = v3 + 1 → R x6 x7))
set_option maxRecDepth 100000 in
set_option maxHeartbeats 4000000 in
theorem wfX6_gaps_46 {x : Nx} {g : Gx} {W0 : va_W} {a : Nat → Nat} {S : RS} {N : Nat} {v1 : Int32} {v3 : Int32} {k0 : Int32} {R : Int32 → Int32 → Prop} {K : Int32 → Prop} {Q : Int32 → Prop} (C : Cx x g cX6_gaps RX6 wsX6_gaps rmX6_gaps yX6_gaps (some .int) 4) (hZ : Zq x g W0 (fun _ : Unit => mW g a S) (qI (fun (r : Int32) (_ : Unit) => Q r)) 0 0) (hR : ∀ (w2 : Int32) (w3 : Int32), R w2 w3 → St x 0 0 (mW g a S) [(0, .ref (a 50)), (1, .int v1), (2, .int w2), (3, .int w3)] [] 13) (hK : ∀ (w2 : Int32), K w2 → St x 0 0 (mW g a S) [(2, .int w2)] [] 55) (h : fX6_gaps_46 N S v1 v3 k0 R K Q) : St x 0 0 (mW g a S) [(0, .ref (a 50)), (1, .int v1), (3, .int v3)] [.int k0] 46 := by
  unfold fX6_gaps_46 at h
  refine r_iconst (v := 0) C dX6_gaps_46 (by decide) ?_
  refine r_ior C dX6_gaps_47 ?_
  refine r_topi (fun x6 ex6 => ?_)
  have h := h x6 ex6
  refine r_istore_n (lv' := [(0, .ref (a 50)), (1, .int v1), (2, .int x6), (3, .int v3)]) C dX6_gaps_48 [some 0, some 1, none, some 2] (by decide) rfl rfl ?_
  obtain ⟨x7, ex7⟩ : ∃ z : Int32, z = v3 + 1 := ⟨_, rfl⟩
  have h := h x7 ex7
  refine r_iinc (v := x7) (lv' := [(0, .ref (a 50)), (1, .int v1), (2, .int x6), (3, .int x7)]) C dX6_gaps_49 rfl (by rw [ex7]; rfl) [some 0, some 1, some 2, none] (by decide) rfl rfl ?_
  refine r_goto (tgt := 13) C dX6_gaps_52 (by decide) ?_
  exact hR x6 x7 h
def fX6_gaps_13b (N : Nat) (S : RS) (v1 : Int32) (v2 : Int32) (v3 : Int32) (R : Int32 → Int32 → Prop) (K : Int32 → Prop) (Q : Int32 → Prop) : Prop :=
  (((S.1 13) ≤ v3 → K v2) ∧ (¬ (S.1 13) ≤ v3 → (fX6_isThere N S v3 v1 (fun r4 => ((r4 = 0 → (fX6_gaps_46 N S v1 v3 v2 R K Q)) ∧ (¬ r4 = 0 → (vp_in v3 20 ∧ ((¬ (S.2.1 34 v3.toNatClampNeg) = 0 → (fX6_gaps_46 N S v1 v3 v2 R K Q)) ∧ ((S.2.1 34 v3.toNatClampNeg) = 0 → (∀ x10 : Int32, x10 = v2 ||| ((1 : Int32) <<< (v3 &&& 31)) → (∀ x11 : Int32, x11 = v3 + 1 → R x10 x11)))))))))))
set_option maxRecDepth 100000 in
set_option maxHeartbeats 4000000 in
theorem wfX6_gaps_13b {x : Nx} {g : Gx} {W0 : va_W} {a : Nat → Nat} {S : RS} {N : Nat} {v1 : Int32} {v2 : Int32} {v3 : Int32} {R : Int32 → Int32 → Prop} {K : Int32 → Prop} {Q : Int32 → Prop} (C : Cx x g cX6_gaps RX6 wsX6_gaps rmX6_gaps yX6_gaps (some .int) 4) (hZ : Zq x g W0 (fun _ : Unit => mW g a S) (qI (fun (r : Int32) (_ : Unit) => Q r)) 0 0) (hR : ∀ (w2 : Int32) (w3 : Int32), R w2 w3 → St x 0 0 (mW g a S) [(0, .ref (a 50)), (1, .int v1), (2, .int w2), (3, .int w3)] [] 13) (hK : ∀ (w2 : Int32), K w2 → St x 0 0 (mW g a S) [(2, .int w2)] [] 55) (h : fX6_gaps_13b N S v1 v2 v3 R K Q) : St x 0 0 (mW g a S) [(0, .ref (a 50)), (1, .int v1), (2, .int v2), (3, .int v3)] [] 13 := by
  unfold fX6_gaps_13b at h
  refine r_iload_n C dX6_gaps_13 rfl ?_
  refine r_aload_n C dX6_gaps_14 rfl ?_
  refine r_get (cn := RX6) (T := TX6) (N := 43) (ci := 6) C uwX6_gaps_6 0 rfl rfl 13 (by decide) kwX6_gaps_0 (v := .int (S.1 13)) rfl dX6_gaps_15 ?_
  refine r_icmp_ge (tgt := 55) C dX6_gaps_18 (by decide) (fun c3 => ?_) (fun c3 => ?_)
  · have h := h.1 c3
    refine r_sub [2] (lv' := [(2, .int v2)]) rfl ?_
    exact hK v2 h
  · have h := h.2 c3
    refine r_iload_n C dX6_gaps_21 rfl ?_
    refine r_aload_n C dX6_gaps_22 rfl ?_
    refine r_iload_n C dX6_gaps_23 rfl ?_
    refine r_iload_n C dX6_gaps_24 rfl ?_
    refine callR_I C (run_V (As := [.int v3, .int v1]) (rest := [.int v2]) (ci := 6) C hZ.2.2 (tX6_isThere _ g a S N v3 v1 _ h) gX6_gaps_X6_isThere rfl dsX6_isThere rfl rfl ⟨(Nat.le_of_ble_eq_true rfl), (Nat.le_of_ble_eq_true rfl)⟩ rfl (List.mem_of_getElem? (i := 0) rfl) rfl (Nat.le_of_ble_eq_true rfl) dX6_gaps_25 ⟨Nat.zero_le _, Nat.zero_le _⟩) (List.Sublist.refl _) (fun _ => rfl) (fun r4 _ h => ?_)
    refine r_if_eq (tgt := 46) C dX6_gaps_28 (by decide) (fun c5 => ?_) (fun c5 => ?_)
    · have h := h.1 c5
      refine r_sub [0, 1, 3] (lv' := [(0, .ref (a 50)), (1, .int v1), (3, .int v3)]) rfl ?_
      exact wfX6_gaps_46 C hZ hR hK h
    · have h := h.2 c5
      refine r_aload_n C dX6_gaps_31 rfl ?_
      refine r_get (cn := RX6) (T := TX6) (N := 43) (ci := 6) C uwX6_gaps_6 0 rfl rfl 34 (by decide) kwX6_gaps_2 (v := .ref (a 34)) rfl dX6_gaps_32 ?_
      refine r_iload_n C dX6_gaps_35 rfl ?_
      obtain ⟨hi8, h⟩ := h
      refine r_iald C 22 rfl hi8 dX6_gaps_36 ?_
      refine r_if_ne (tgt := 46) C dX6_gaps_37 (by decide) (fun c9 => ?_) (fun c9 => ?_)
      · have h := h.1 c9
        refine r_sub [0, 1, 3] (lv' := [(0, .ref (a 50)), (1, .int v1), (3, .int v3)]) rfl ?_
        exact wfX6_gaps_46 C hZ hR hK h
      · have h := h.2 c9
        refine r_iconst (v := 1) C dX6_gaps_40 (by decide) ?_
        refine r_iload_n C dX6_gaps_41 rfl ?_
        refine r_ishl C dX6_gaps_42 ?_
        refine r_goto (tgt := 47) C dX6_gaps_43 (by decide) ?_
        refine r_ior C dX6_gaps_47 ?_
        refine r_topi (fun x10 ex10 => ?_)
        have h := h x10 ex10
        refine r_istore_n (lv' := [(0, .ref (a 50)), (1, .int v1), (2, .int x10), (3, .int v3)]) C dX6_gaps_48 [some 0, some 1, none, some 3] (by decide) rfl rfl ?_
        obtain ⟨x11, ex11⟩ : ∃ z : Int32, z = v3 + 1 := ⟨_, rfl⟩
        have h := h x11 ex11
        refine r_iinc (v := x11) (lv' := [(0, .ref (a 50)), (1, .int v1), (2, .int x10), (3, .int x11)]) C dX6_gaps_49 rfl (by rw [ex11]; rfl) [some 0, some 1, some 2, none] (by decide) rfl rfl ?_
        refine r_goto (tgt := 13) C dX6_gaps_52 (by decide) ?_
        exact hR x10 x11 h
def fX6_gaps_13 (N : Nat) (S : RS) (v1 : Int32) (K : Int32 → Prop) (Q : Int32 → Prop) : Nat → Int32 → Int32 → Prop
  | 0, _, _ => False
  | n + 1, v2, v3 => fX6_gaps_13b N S v1 v2 v3 (fun v2 v3 => fX6_gaps_13 N S v1 K Q n v2 v3) K Q
set_option maxRecDepth 100000 in
set_option maxHeartbeats 4000000 in
theorem wfX6_gaps_13 {x : Nx} {g : Gx} {W0 : va_W} {a : Nat → Nat} {S : RS} {N : Nat} {v1 : Int32} {K : Int32 → Prop} {Q : Int32 → Prop} (C : Cx x g cX6_gaps RX6 wsX6_gaps rmX6_gaps yX6_gaps (some .int) 4) (hZ : Zq x g W0 (fun _ : Unit => mW g a S) (qI (fun (r : Int32) (_ : Unit) => Q r)) 0 0) (hK : ∀ (w2 : Int32), K w2 → St x 0 0 (mW g a S) [(2, .int w2)] [] 55) : ∀ (n : Nat) (v2 : Int32) (v3 : Int32), fX6_gaps_13 N S v1 K Q n v2 v3 → St x 0 0 (mW g a S) [(0, .ref (a 50)), (1, .int v1), (2, .int v2), (3, .int v3)] [] 13 := by
  intro n
  induction n with
  | zero => intro v2 v3 h; exact False.elim h
  | succ n ih => intro v2 v3 h; exact wfX6_gaps_13b C hZ ih hK h
def fX6_gaps (N : Nat) (S : RS) (v1 : Int32) (Q : Int32 → Prop) : Prop :=
  (fX6_isDay N v1 (fun r1 => ((¬ r1 = 0 → (fX6_gaps_13 N S v1 (fun x12 => Q x12) Q N 0 0)) ∧ (r1 = 0 → Q (-1)))))
set_option maxRecDepth 100000 in
set_option maxHeartbeats 4000000 in
theorem tX6_gaps (l : Launch) (g : Gx) (a : Nat → Nat) (S : RS) (N : Nat) (v1 : Int32) (Q : Int32 → Prop) (h : fX6_gaps N S v1 Q) : MetG l g yX6_gaps wsX6_gaps rmX6_gaps [.ref (a 50), .int v1] (mW g a S) (fun _ : Unit => mW g a S) (qI (fun (r : Int32) (_ : Unit) => Q r)) 0 0 := by
  refine met_of (cc := cX6_gaps) (own := RX6) (nL := 4) (ret := (some .int)) (lv := [(0, .ref (a 50)), (1, .int v1)]) (by decide) rfl rfl (Nat.le_of_ble_eq_true rfl) rfl ?_
  intro x C hl hZ
  subst hl
  unfold fX6_gaps at h
  refine r_iload_n C dX6_gaps_0 rfl ?_
  refine callR_I C (run_S (As := [.int v1]) (rest := []) C hZ.2.2 (tX6_isDay _ g N v1 _ h) gX6_gaps_X6_isDay rfl dsX6_isDay rfl rfl ⟨(Nat.le_of_ble_eq_true rfl), (Nat.le_of_ble_eq_true rfl)⟩ rfl (Nat.le_of_ble_eq_true rfl) dX6_gaps_1 ⟨Nat.zero_le _, Nat.zero_le _⟩) (List.nil_sublist _) (fun _ => rfl) (fun r1 _ h => ?_)
  refine r_if_ne (tgt := 9) C dX6_gaps_4 (by decide) (fun c2 => ?_) (fun c2 => ?_)
  · have h := h.1 c2
    refine r_iconst (v := 0) C dX6_gaps_9 (by decide) ?_
    refine r_istore_n (lv' := [(0, .ref (a 50)), (1, .int v1), (2, .int 0)]) C dX6_gaps_10 [some 0, some 1, none] (by decide) rfl rfl ?_
    refine r_iconst (v := 0) C dX6_gaps_11 (by decide) ?_
    refine r_istore_n (lv' := [(0, .ref (a 50)), (1, .int v1), (2, .int 0), (3, .int 0)]) C dX6_gaps_12 [some 0, some 1, some 2, none] (by decide) rfl rfl ?_
    refine wfX6_gaps_13 C hZ (fun x12 h => ?_) N _ _ h
    refine r_iload_n C dX6_gaps_55 rfl ?_
    exact r_iret C hZ (u := ()) h rfl dX6_gaps_56
  · have h := h.2 c2
    refine r_iconst (v := (-1)) C dX6_gaps_7 (by decide) ?_
    exact r_iret C hZ (u := ()) h rfl dX6_gaps_8
def rmX6_bare : Room := { frames := 2, cells := 0, slots := 0, locals := 42 }
theorem kwX6_bare_0 : Cond.fieldLink RX6 87 "WantsBenchModel" "wants" "I" ∈ wsX6_bare := by decide +kernel
theorem uwX6_bare_6 : ∀ w ∈ wsX60, w ∈ wsX6_bare := by decide +kernel
theorem kwX6_bare_2 : Cond.fieldLink RX6 75 "WantsBenchModel" "ledTo" "[I" ∈ wsX6_bare := by decide +kernel
theorem kwX6_bare_3 : Cond.fieldLink RX6 247 "WantsBenchModel" "parts" "I" ∈ wsX6_bare := by decide +kernel
theorem kwX6_bare_4 : Cond.fieldLink RX6 72 "WantsBenchModel" "uses" "[I" ∈ wsX6_bare := by decide +kernel
def fX6_bare_13b (N : Nat) (S : RS) (v1 : Int32) (v2 : Int32) (v3 : Int32) (R : Int32 → Int32 → Prop) (K : Int32 → Prop) (Q : Int32 → Prop) : Prop :=
  (((S.1 13) ≤ v3 → K v2) ∧ (¬ (S.1 13) ≤ v3 → (fX6_isThere N S v3 v1 (fun r4 => ((r4 = 0 → (∀ x6 : Int32, x6 = v2 ||| (0 : Int32) → (∀ x7 : Int32, x7 = v3 + 1 → R x6 x7))) ∧ (¬ r4 = 0 → (vp_in v3 20 ∧ (∀ x9 : Int32, x9 = v2 ||| (S.2.1 34 v3.toNatClampNeg) → (∀ x10 : Int32, x10 = v3 + 1 → R x9 x10)))))))))
set_option maxRecDepth 100000 in
set_option maxHeartbeats 4000000 in
theorem wfX6_bare_13b {x : Nx} {g : Gx} {W0 : va_W} {a : Nat → Nat} {S : RS} {N : Nat} {v1 : Int32} {v2 : Int32} {v3 : Int32} {R : Int32 → Int32 → Prop} {K : Int32 → Prop} {Q : Int32 → Prop} (C : Cx x g cX6_bare RX6 wsX6_bare rmX6_bare yX6_bare (some .int) 4) (hZ : Zq x g W0 (fun _ : Unit => mW g a S) (qI (fun (r : Int32) (_ : Unit) => Q r)) 0 0) (hR : ∀ (w2 : Int32) (w3 : Int32), R w2 w3 → St x 0 0 (mW g a S) [(0, .ref (a 50)), (1, .int v1), (2, .int w2), (3, .int w3)] [] 13) (hK : ∀ (w2 : Int32), K w2 → St x 0 0 (mW g a S) [(0, .ref (a 50)), (2, .int w2)] [] 49) (h : fX6_bare_13b N S v1 v2 v3 R K Q) : St x 0 0 (mW g a S) [(0, .ref (a 50)), (1, .int v1), (2, .int v2), (3, .int v3)] [] 13 := by
  unfold fX6_bare_13b at h
  refine r_iload_n C dX6_bare_13 rfl ?_
  refine r_aload_n C dX6_bare_14 rfl ?_
  refine r_get (cn := RX6) (T := TX6) (N := 43) (ci := 6) C uwX6_bare_6 0 rfl rfl 13 (by decide) kwX6_bare_0 (v := .int (S.1 13)) rfl dX6_bare_15 ?_
  refine r_icmp_ge (tgt := 49) C dX6_bare_18 (by decide) (fun c3 => ?_) (fun c3 => ?_)
  · have h := h.1 c3
    refine r_sub [0, 2] (lv' := [(0, .ref (a 50)), (2, .int v2)]) rfl ?_
    exact hK v2 h
  · have h := h.2 c3
    refine r_iload_n C dX6_bare_21 rfl ?_
    refine r_aload_n C dX6_bare_22 rfl ?_
    refine r_iload_n C dX6_bare_23 rfl ?_
    refine r_iload_n C dX6_bare_24 rfl ?_
    refine callR_I C (run_V (As := [.int v3, .int v1]) (rest := [.int v2]) (ci := 6) C hZ.2.2 (tX6_isThere _ g a S N v3 v1 _ h) gX6_bare_X6_isThere rfl dsX6_isThere rfl rfl ⟨(Nat.le_of_ble_eq_true rfl), (Nat.le_of_ble_eq_true rfl)⟩ rfl (List.mem_of_getElem? (i := 0) rfl) rfl (Nat.le_of_ble_eq_true rfl) dX6_bare_25 ⟨Nat.zero_le _, Nat.zero_le _⟩) (List.Sublist.refl _) (fun _ => rfl) (fun r4 _ h => ?_)
    refine r_if_eq (tgt := 40) C dX6_bare_28 (by decide) (fun c5 => ?_) (fun c5 => ?_)
    · have h := h.1 c5
      refine r_iconst (v := 0) C dX6_bare_40 (by decide) ?_
      refine r_ior C dX6_bare_41 ?_
      refine r_topi (fun x6 ex6 => ?_)
      have h := h x6 ex6
      refine r_istore_n (lv' := [(0, .ref (a 50)), (1, .int v1), (2, .int x6), (3, .int v3)]) C dX6_bare_42 [some 0, some 1, none, some 3] (by decide) rfl rfl ?_
      obtain ⟨x7, ex7⟩ : ∃ z : Int32, z = v3 + 1 := ⟨_, rfl⟩
      have h := h x7 ex7
      refine r_iinc (v := x7) (lv' := [(0, .ref (a 50)), (1, .int v1), (2, .int x6), (3, .int x7)]) C dX6_bare_43 rfl (by rw [ex7]; rfl) [some 0, some 1, some 2, none] (by decide) rfl rfl ?_
      refine r_goto (tgt := 13) C dX6_bare_46 (by decide) ?_
      exact hR x6 x7 h
    · have h := h.2 c5
      refine r_aload_n C dX6_bare_31 rfl ?_
      refine r_get (cn := RX6) (T := TX6) (N := 43) (ci := 6) C uwX6_bare_6 0 rfl rfl 34 (by decide) kwX6_bare_2 (v := .ref (a 34)) rfl dX6_bare_32 ?_
      refine r_iload_n C dX6_bare_35 rfl ?_
      obtain ⟨hi8, h⟩ := h
      refine r_iald C 22 rfl hi8 dX6_bare_36 ?_
      refine r_goto (tgt := 41) C dX6_bare_37 (by decide) ?_
      refine r_ior C dX6_bare_41 ?_
      refine r_topi (fun x9 ex9 => ?_)
      have h := h x9 ex9
      refine r_istore_n (lv' := [(0, .ref (a 50)), (1, .int v1), (2, .int x9), (3, .int v3)]) C dX6_bare_42 [some 0, some 1, none, some 3] (by decide) rfl rfl ?_
      obtain ⟨x10, ex10⟩ : ∃ z : Int32, z = v3 + 1 := ⟨_, rfl⟩
      have h := h x10 ex10
      refine r_iinc (v := x10) (lv' := [(0, .ref (a 50)), (1, .int v1), (2, .int x9), (3, .int x10)]) C dX6_bare_43 rfl (by rw [ex10]; rfl) [some 0, some 1, some 2, none] (by decide) rfl rfl ?_
      refine r_goto (tgt := 13) C dX6_bare_46 (by decide) ?_
      exact hR x9 x10 h
def fX6_bare_13 (N : Nat) (S : RS) (v1 : Int32) (K : Int32 → Prop) (Q : Int32 → Prop) : Nat → Int32 → Int32 → Prop
  | 0, _, _ => False
  | n + 1, v2, v3 => fX6_bare_13b N S v1 v2 v3 (fun v2 v3 => fX6_bare_13 N S v1 K Q n v2 v3) K Q
set_option maxRecDepth 100000 in
set_option maxHeartbeats 4000000 in
theorem wfX6_bare_13 {x : Nx} {g : Gx} {W0 : va_W} {a : Nat → Nat} {S : RS} {N : Nat} {v1 : Int32} {K : Int32 → Prop} {Q : Int32 → Prop} (C : Cx x g cX6_bare RX6 wsX6_bare rmX6_bare yX6_bare (some .int) 4) (hZ : Zq x g W0 (fun _ : Unit => mW g a S) (qI (fun (r : Int32) (_ : Unit) => Q r)) 0 0) (hK : ∀ (w2 : Int32), K w2 → St x 0 0 (mW g a S) [(0, .ref (a 50)), (2, .int w2)] [] 49) : ∀ (n : Nat) (v2 : Int32) (v3 : Int32), fX6_bare_13 N S v1 K Q n v2 v3 → St x 0 0 (mW g a S) [(0, .ref (a 50)), (1, .int v1), (2, .int v2), (3, .int v3)] [] 13 := by
  intro n
  induction n with
  | zero => intro v2 v3 h; exact False.elim h
  | succ n ih => intro v2 v3 h; exact wfX6_bare_13b C hZ ih hK h
def fX6_bare_56b (N : Nat) (S : RS) (v2 : Int32) (v3 : Int32) (R : Int32 → Int32 → Prop) (K : Int32 → Prop) (Q : Int32 → Prop) : Prop :=
  ((v3 < 0 → K v2) ∧ (¬ v3 < 0 → ((¬ ((v2 >>> (v3 &&& 31)) &&& (1 : Int32)) = 1 → (∀ x15 : Int32, x15 = v2 ||| (0 : Int32) → (∀ x16 : Int32, x16 = v3 + (-1) → R x15 x16))) ∧ (((v2 >>> (v3 &&& 31)) &&& (1 : Int32)) = 1 → (vp_in v3 20 ∧ (∀ x18 : Int32, x18 = v2 ||| (S.2.1 33 v3.toNatClampNeg) → (∀ x19 : Int32, x19 = v3 + (-1) → R x18 x19)))))))
set_option maxRecDepth 100000 in
set_option maxHeartbeats 4000000 in
theorem wfX6_bare_56b {x : Nx} {g : Gx} {W0 : va_W} {a : Nat → Nat} {S : RS} {N : Nat} {v2 : Int32} {v3 : Int32} {R : Int32 → Int32 → Prop} {K : Int32 → Prop} {Q : Int32 → Prop} (C : Cx x g cX6_bare RX6 wsX6_bare rmX6_bare yX6_bare (some .int) 4) (hZ : Zq x g W0 (fun _ : Unit => mW g a S) (qI (fun (r : Int32) (_ : Unit) => Q r)) 0 0) (hR : ∀ (w2 : Int32) (w3 : Int32), R w2 w3 → St x 0 0 (mW g a S) [(0, .ref (a 50)), (2, .int w2), (3, .int w3)] [] 56) (hK : ∀ (w2 : Int32), K w2 → St x 0 0 (mW g a S) [(0, .ref (a 50)), (2, .int w2)] [] 88) (h : fX6_bare_56b N S v2 v3 R K Q) : St x 0 0 (mW g a S) [(0, .ref (a 50)), (2, .int v2), (3, .int v3)] [] 56 := by
  unfold fX6_bare_56b at h
  refine r_iload_n C dX6_bare_56 rfl ?_
  refine r_if_lt (tgt := 88) C dX6_bare_57 (by decide) (fun c13 => ?_) (fun c13 => ?_)
  · have h := h.1 c13
    refine r_sub [0, 1] (lv' := [(0, .ref (a 50)), (2, .int v2)]) rfl ?_
    exact hK v2 h
  · have h := h.2 c13
    refine r_iload_n C dX6_bare_60 rfl ?_
    refine r_iload_n C dX6_bare_61 rfl ?_
    refine r_iload_n C dX6_bare_62 rfl ?_
    refine r_ishr C dX6_bare_63 ?_
    refine r_iconst (v := 1) C dX6_bare_64 (by decide) ?_
    refine r_iand C dX6_bare_65 ?_
    refine r_iconst (v := 1) C dX6_bare_66 (by decide) ?_
    refine r_icmp_ne (tgt := 79) C dX6_bare_67 (by decide) (fun c14 => ?_) (fun c14 => ?_)
    · have h := h.1 c14
      refine r_iconst (v := 0) C dX6_bare_79 (by decide) ?_
      refine r_ior C dX6_bare_80 ?_
      refine r_topi (fun x15 ex15 => ?_)
      have h := h x15 ex15
      refine r_istore_n (lv' := [(0, .ref (a 50)), (2, .int x15), (3, .int v3)]) C dX6_bare_81 [some 0, none, some 2] (by decide) rfl rfl ?_
      obtain ⟨x16, ex16⟩ : ∃ z : Int32, z = v3 + (-1) := ⟨_, rfl⟩
      have h := h x16 ex16
      refine r_iinc (v := x16) (lv' := [(0, .ref (a 50)), (2, .int x15), (3, .int x16)]) C dX6_bare_82 rfl (by rw [ex16]; rfl) [some 0, some 1, none] (by decide) rfl rfl ?_
      refine r_goto (tgt := 56) C dX6_bare_85 (by decide) ?_
      exact hR x15 x16 h
    · have h := h.2 c14
      refine r_aload_n C dX6_bare_70 rfl ?_
      refine r_get (cn := RX6) (T := TX6) (N := 43) (ci := 6) C uwX6_bare_6 0 rfl rfl 33 (by decide) kwX6_bare_4 (v := .ref (a 33)) rfl dX6_bare_71 ?_
      refine r_iload_n C dX6_bare_74 rfl ?_
      obtain ⟨hi17, h⟩ := h
      refine r_iald C 21 rfl hi17 dX6_bare_75 ?_
      refine r_goto (tgt := 80) C dX6_bare_76 (by decide) ?_
      refine r_ior C dX6_bare_80 ?_
      refine r_topi (fun x18 ex18 => ?_)
      have h := h x18 ex18
      refine r_istore_n (lv' := [(0, .ref (a 50)), (2, .int x18), (3, .int v3)]) C dX6_bare_81 [some 0, none, some 2] (by decide) rfl rfl ?_
      obtain ⟨x19, ex19⟩ : ∃ z : Int32, z = v3 + (-1) := ⟨_, rfl⟩
      have h := h x19 ex19
      refine r_iinc (v := x19) (lv' := [(0, .ref (a 50)), (2, .int x18), (3, .int x19)]) C dX6_bare_82 rfl (by rw [ex19]; rfl) [some 0, some 1, none] (by decide) rfl rfl ?_
      refine r_goto (tgt := 56) C dX6_bare_85 (by decide) ?_
      exact hR x18 x19 h
def fX6_bare_56 (N : Nat) (S : RS) (K : Int32 → Prop) (Q : Int32 → Prop) : Nat → Int32 → Int32 → Prop
  | 0, _, _ => False
  | n + 1, v2, v3 => fX6_bare_56b N S v2 v3 (fun v2 v3 => fX6_bare_56 N S K Q n v2 v3) K Q
set_option maxRecDepth 100000 in
set_option maxHeartbeats 4000000 in
theorem wfX6_bare_56 {x : Nx} {g : Gx} {W0 : va_W} {a : Nat → Nat} {S : RS} {N : Nat} {K : Int32 → Prop} {Q : Int32 → Prop} (C : Cx x g cX6_bare RX6 wsX6_bare rmX6_bare yX6_bare (some .int) 4) (hZ : Zq x g W0 (fun _ : Unit => mW g a S) (qI (fun (r : Int32) (_ : Unit) => Q r)) 0 0) (hK : ∀ (w2 : Int32), K w2 → St x 0 0 (mW g a S) [(0, .ref (a 50)), (2, .int w2)] [] 88) : ∀ (n : Nat) (v2 : Int32) (v3 : Int32), fX6_bare_56 N S K Q n v2 v3 → St x 0 0 (mW g a S) [(0, .ref (a 50)), (2, .int v2), (3, .int v3)] [] 56 := by
  intro n
  induction n with
  | zero => intro v2 v3 h; exact False.elim h
  | succ n ih => intro v2 v3 h; exact wfX6_bare_56b C hZ ih hK h
def fX6_bare (N : Nat) (S : RS) (v1 : Int32) (Q : Int32 → Prop) : Prop :=
  (fX6_isDay N v1 (fun r1 => ((¬ r1 = 0 → (fX6_bare_13 N S v1 (fun x11 => (∀ x12 : Int32, x12 = (S.1 32) - (1 : Int32) → (fX6_bare_56 N S (fun x20 => Q ((((1 : Int32) <<< ((S.1 32) &&& 31)) - (1 : Int32)) &&& (x20 ^^^ (-1 : Int32)))) Q N x11 x12))) Q N 0 0)) ∧ (r1 = 0 → Q (-1)))))
set_option maxRecDepth 100000 in
set_option maxHeartbeats 4000000 in
theorem tX6_bare (l : Launch) (g : Gx) (a : Nat → Nat) (S : RS) (N : Nat) (v1 : Int32) (Q : Int32 → Prop) (h : fX6_bare N S v1 Q) : MetG l g yX6_bare wsX6_bare rmX6_bare [.ref (a 50), .int v1] (mW g a S) (fun _ : Unit => mW g a S) (qI (fun (r : Int32) (_ : Unit) => Q r)) 0 0 := by
  refine met_of (cc := cX6_bare) (own := RX6) (nL := 4) (ret := (some .int)) (lv := [(0, .ref (a 50)), (1, .int v1)]) (by decide) rfl rfl (Nat.le_of_ble_eq_true rfl) rfl ?_
  intro x C hl hZ
  subst hl
  unfold fX6_bare at h
  refine r_iload_n C dX6_bare_0 rfl ?_
  refine callR_I C (run_S (As := [.int v1]) (rest := []) C hZ.2.2 (tX6_isDay _ g N v1 _ h) gX6_bare_X6_isDay rfl dsX6_isDay rfl rfl ⟨(Nat.le_of_ble_eq_true rfl), (Nat.le_of_ble_eq_true rfl)⟩ rfl (Nat.le_of_ble_eq_true rfl) dX6_bare_1 ⟨Nat.zero_le _, Nat.zero_le _⟩) (List.nil_sublist _) (fun _ => rfl) (fun r1 _ h => ?_)
  refine r_if_ne (tgt := 9) C dX6_bare_4 (by decide) (fun c2 => ?_) (fun c2 => ?_)
  · have h := h.1 c2
    refine r_iconst (v := 0) C dX6_bare_9 (by decide) ?_
    refine r_istore_n (lv' := [(0, .ref (a 50)), (1, .int v1), (2, .int 0)]) C dX6_bare_10 [some 0, some 1, none] (by decide) rfl rfl ?_
    refine r_iconst (v := 0) C dX6_bare_11 (by decide) ?_
    refine r_istore_n (lv' := [(0, .ref (a 50)), (1, .int v1), (2, .int 0), (3, .int 0)]) C dX6_bare_12 [some 0, some 1, some 2, none] (by decide) rfl rfl ?_
    refine wfX6_bare_13 C hZ (fun x11 h => ?_) N _ _ h
    refine r_aload_n C dX6_bare_49 rfl ?_
    refine r_get (cn := RX6) (T := TX6) (N := 43) (ci := 6) C uwX6_bare_6 0 rfl rfl 32 (by decide) kwX6_bare_3 (v := .int (S.1 32)) rfl dX6_bare_50 ?_
    refine r_iconst (v := 1) C dX6_bare_53 (by decide) ?_
    refine r_isub C dX6_bare_54 ?_
    refine r_topi (fun x12 ex12 => ?_)
    have h := h x12 ex12
    refine r_istore_n (lv' := [(0, .ref (a 50)), (2, .int x11), (3, .int x12)]) C dX6_bare_55 [some 0, some 1, none] (by decide) rfl rfl ?_
    refine wfX6_bare_56 C hZ (fun x20 h => ?_) N _ _ h
    refine r_iconst (v := 1) C dX6_bare_88 (by decide) ?_
    refine r_aload_n C dX6_bare_89 rfl ?_
    refine r_get (cn := RX6) (T := TX6) (N := 43) (ci := 6) C uwX6_bare_6 0 rfl rfl 32 (by decide) kwX6_bare_3 (v := .int (S.1 32)) rfl dX6_bare_90 ?_
    refine r_ishl C dX6_bare_93 ?_
    refine r_iconst (v := 1) C dX6_bare_94 (by decide) ?_
    refine r_isub C dX6_bare_95 ?_
    refine r_iload_n C dX6_bare_96 rfl ?_
    refine r_iconst (v := (-1)) C dX6_bare_97 (by decide) ?_
    refine r_ixor C dX6_bare_98 ?_
    refine r_iand C dX6_bare_99 ?_
    exact r_iret C hZ (u := ()) h rfl dX6_bare_100
  · have h := h.2 c2
    refine r_iconst (v := (-1)) C dX6_bare_7 (by decide) ?_
    exact r_iret C hZ (u := ()) h rfl dX6_bare_8
def rmX6_reachOf : Room := { frames := 0, cells := 0, slots := 0, locals := 0 }
theorem kwX6_reachOf_0 : Cond.fieldLink RX6 75 "WantsBenchModel" "ledTo" "[I" ∈ wsX6_reachOf := by decide +kernel
theorem uwX6_reachOf_6 : ∀ w ∈ wsX60, w ∈ wsX6_reachOf := by decide +kernel
theorem kwX6_reachOf_2 : Cond.fieldLink RX6 247 "WantsBenchModel" "parts" "I" ∈ wsX6_reachOf := by decide +kernel
theorem kwX6_reachOf_3 : Cond.fieldLink RX6 72 "WantsBenchModel" "uses" "[I" ∈ wsX6_reachOf := by decide +kernel
def fX6_reachOf_9b (N : Nat) (S : RS) (v2 : Int32) (v3 : Int32) (R : Int32 → Int32 → Prop) (K : Int32 → Prop) (Q : Int32 → Prop) : Prop :=
  (((S.1 32) ≤ v3 → K v2) ∧ (¬ (S.1 32) ≤ v3 → (vp_in v3 20 ∧ ((((S.2.1 33 v3.toNatClampNeg) &&& v2) = 0 → (∀ x6 : Int32, x6 = v2 ||| (0 : Int32) → (∀ x7 : Int32, x7 = v3 + 1 → R x6 x7))) ∧ (¬ ((S.2.1 33 v3.toNatClampNeg) &&& v2) = 0 → (∀ x8 : Int32, x8 = v2 ||| ((1 : Int32) <<< (v3 &&& 31)) → (∀ x9 : Int32, x9 = v3 + 1 → R x8 x9)))))))
set_option maxRecDepth 100000 in
set_option maxHeartbeats 4000000 in
theorem wfX6_reachOf_9b {x : Nx} {g : Gx} {W0 : va_W} {a : Nat → Nat} {S : RS} {N : Nat} {v2 : Int32} {v3 : Int32} {R : Int32 → Int32 → Prop} {K : Int32 → Prop} {Q : Int32 → Prop} (C : Cx x g cX6_reachOf RX6 wsX6_reachOf rmX6_reachOf yX6_reachOf (some .int) 4) (hZ : Zq x g W0 (fun _ : Unit => mW g a S) (qI (fun (r : Int32) (_ : Unit) => Q r)) 0 0) (hR : ∀ (w2 : Int32) (w3 : Int32), R w2 w3 → St x 0 0 (mW g a S) [(0, .ref (a 50)), (2, .int w2), (3, .int w3)] [] 9) (hK : ∀ (w2 : Int32), K w2 → St x 0 0 (mW g a S) [(2, .int w2)] [] 44) (h : fX6_reachOf_9b N S v2 v3 R K Q) : St x 0 0 (mW g a S) [(0, .ref (a 50)), (2, .int v2), (3, .int v3)] [] 9 := by
  unfold fX6_reachOf_9b at h
  refine r_iload_n C dX6_reachOf_9 rfl ?_
  refine r_aload_n C dX6_reachOf_10 rfl ?_
  refine r_get (cn := RX6) (T := TX6) (N := 43) (ci := 6) C uwX6_reachOf_6 0 rfl rfl 32 (by decide) kwX6_reachOf_2 (v := .int (S.1 32)) rfl dX6_reachOf_11 ?_
  refine r_icmp_ge (tgt := 44) C dX6_reachOf_14 (by decide) (fun c3 => ?_) (fun c3 => ?_)
  · have h := h.1 c3
    refine r_sub [1] (lv' := [(2, .int v2)]) rfl ?_
    exact hK v2 h
  · have h := h.2 c3
    refine r_iload_n C dX6_reachOf_17 rfl ?_
    refine r_aload_n C dX6_reachOf_18 rfl ?_
    refine r_get (cn := RX6) (T := TX6) (N := 43) (ci := 6) C uwX6_reachOf_6 0 rfl rfl 33 (by decide) kwX6_reachOf_3 (v := .ref (a 33)) rfl dX6_reachOf_19 ?_
    refine r_iload_n C dX6_reachOf_22 rfl ?_
    obtain ⟨hi4, h⟩ := h
    refine r_iald C 21 rfl hi4 dX6_reachOf_23 ?_
    refine r_iload_n C dX6_reachOf_24 rfl ?_
    refine r_iand C dX6_reachOf_25 ?_
    refine r_if_eq (tgt := 35) C dX6_reachOf_26 (by decide) (fun c5 => ?_) (fun c5 => ?_)
    · have h := h.1 c5
      refine r_iconst (v := 0) C dX6_reachOf_35 (by decide) ?_
      refine r_ior C dX6_reachOf_36 ?_
      refine r_topi (fun x6 ex6 => ?_)
      have h := h x6 ex6
      refine r_istore_n (lv' := [(0, .ref (a 50)), (2, .int x6), (3, .int v3)]) C dX6_reachOf_37 [some 0, none, some 2] (by decide) rfl rfl ?_
      obtain ⟨x7, ex7⟩ : ∃ z : Int32, z = v3 + 1 := ⟨_, rfl⟩
      have h := h x7 ex7
      refine r_iinc (v := x7) (lv' := [(0, .ref (a 50)), (2, .int x6), (3, .int x7)]) C dX6_reachOf_38 rfl (by rw [ex7]; rfl) [some 0, some 1, none] (by decide) rfl rfl ?_
      refine r_goto (tgt := 9) C dX6_reachOf_41 (by decide) ?_
      exact hR x6 x7 h
    · have h := h.2 c5
      refine r_iconst (v := 1) C dX6_reachOf_29 (by decide) ?_
      refine r_iload_n C dX6_reachOf_30 rfl ?_
      refine r_ishl C dX6_reachOf_31 ?_
      refine r_goto (tgt := 36) C dX6_reachOf_32 (by decide) ?_
      refine r_ior C dX6_reachOf_36 ?_
      refine r_topi (fun x8 ex8 => ?_)
      have h := h x8 ex8
      refine r_istore_n (lv' := [(0, .ref (a 50)), (2, .int x8), (3, .int v3)]) C dX6_reachOf_37 [some 0, none, some 2] (by decide) rfl rfl ?_
      obtain ⟨x9, ex9⟩ : ∃ z : Int32, z = v3 + 1 := ⟨_, rfl⟩
      have h := h x9 ex9
      refine r_iinc (v := x9) (lv' := [(0, .ref (a 50)), (2, .int x8), (3, .int x9)]) C dX6_reachOf_38 rfl (by rw [ex9]; rfl) [some 0, some 1, none] (by decide) rfl rfl ?_
      refine r_goto (tgt := 9) C dX6_reachOf_41 (by decide) ?_
      exact hR x8 x9 h
def fX6_reachOf_9 (N : Nat) (S : RS) (K : Int32 → Prop) (Q : Int32 → Prop) : Nat → Int32 → Int32 → Prop
  | 0, _, _ => False
  | n + 1, v2, v3 => fX6_reachOf_9b N S v2 v3 (fun v2 v3 => fX6_reachOf_9 N S K Q n v2 v3) K Q
set_option maxRecDepth 100000 in
set_option maxHeartbeats 4000000 in
theorem wfX6_reachOf_9 {x : Nx} {g : Gx} {W0 : va_W} {a : Nat → Nat} {S : RS} {N : Nat} {K : Int32 → Prop} {Q : Int32 → Prop} (C : Cx x g cX6_reachOf RX6 wsX6_reachOf rmX6_reachOf yX6_reachOf (some .int) 4) (hZ : Zq x g W0 (fun _ : Unit => mW g a S) (qI (fun (r : Int32) (_ : Unit) => Q r)) 0 0) (hK : ∀ (w2 : Int32), K w2 → St x 0 0 (mW g a S) [(2, .int w2)] [] 44) : ∀ (n : Nat) (v2 : Int32) (v3 : Int32), fX6_reachOf_9 N S K Q n v2 v3 → St x 0 0 (mW g a S) [(0, .ref (a 50)), (2, .int v2), (3, .int v3)] [] 9 := by
  intro n
  induction n with
  | zero => intro v2 v3 h; exact False.elim h
  | succ n ih => intro v2 v3 h; exact wfX6_reachOf_9b C hZ ih hK h
def fX6_reachOf (N : Nat) (S : RS) (v1 : Int32) (Q : Int32 → Prop) : Prop :=
  (vp_in v1 20 ∧ (∀ x2 : Int32, x2 = S.2.1 34 v1.toNatClampNeg → (fX6_reachOf_9 N S (fun x10 => Q x10) Q N x2 0)))
set_option maxRecDepth 100000 in
set_option maxHeartbeats 4000000 in
theorem tX6_reachOf (l : Launch) (g : Gx) (a : Nat → Nat) (S : RS) (N : Nat) (v1 : Int32) (Q : Int32 → Prop) (h : fX6_reachOf N S v1 Q) : MetG l g yX6_reachOf wsX6_reachOf rmX6_reachOf [.ref (a 50), .int v1] (mW g a S) (fun _ : Unit => mW g a S) (qI (fun (r : Int32) (_ : Unit) => Q r)) 0 0 := by
  refine met_of (cc := cX6_reachOf) (own := RX6) (nL := 4) (ret := (some .int)) (lv := [(0, .ref (a 50)), (1, .int v1)]) (by decide) rfl rfl (Nat.le_of_ble_eq_true rfl) rfl ?_
  intro x C hl hZ
  subst hl
  unfold fX6_reachOf at h
  refine r_aload_n C dX6_reachOf_0 rfl ?_
  refine r_get (cn := RX6) (T := TX6) (N := 43) (ci := 6) C uwX6_reachOf_6 0 rfl rfl 34 (by decide) kwX6_reachOf_0 (v := .ref (a 34)) rfl dX6_reachOf_1 ?_
  refine r_iload_n C dX6_reachOf_4 rfl ?_
  obtain ⟨hi1, h⟩ := h
  refine r_iald C 22 rfl hi1 dX6_reachOf_5 ?_
  refine r_topi (fun x2 ex2 => ?_)
  have h := h x2 ex2
  refine r_istore_n (lv' := [(0, .ref (a 50)), (2, .int x2)]) C dX6_reachOf_6 [some 0, none] (by decide) rfl rfl ?_
  refine r_iconst (v := 0) C dX6_reachOf_7 (by decide) ?_
  refine r_istore_n (lv' := [(0, .ref (a 50)), (2, .int x2), (3, .int 0)]) C dX6_reachOf_8 [some 0, some 1, none] (by decide) rfl rfl ?_
  refine wfX6_reachOf_9 C hZ (fun x10 h => ?_) N _ _ h
  refine r_iload_n C dX6_reachOf_44 rfl ?_
  exact r_iret C hZ (u := ()) h rfl dX6_reachOf_45
def rmX6_reach : Room := { frames := 1, cells := 0, slots := 0, locals := 23 }
def fX6_reach (N : Nat) (S : RS) (v1 : Int32) (Q : Int32 → Prop) : Prop :=
  (fX6_isWant N S v1 (fun r1 => ((r1 = 0 → Q (-1)) ∧ (¬ r1 = 0 → (fX6_reachOf N S v1 (fun r3 => Q r3))))))
set_option maxRecDepth 100000 in
set_option maxHeartbeats 4000000 in
theorem tX6_reach (l : Launch) (g : Gx) (a : Nat → Nat) (S : RS) (N : Nat) (v1 : Int32) (Q : Int32 → Prop) (h : fX6_reach N S v1 Q) : MetG l g yX6_reach wsX6_reach rmX6_reach [.ref (a 50), .int v1] (mW g a S) (fun _ : Unit => mW g a S) (qI (fun (r : Int32) (_ : Unit) => Q r)) 0 0 := by
  refine met_of (cc := cX6_reach) (own := RX6) (nL := 2) (ret := (some .int)) (lv := [(0, .ref (a 50)), (1, .int v1)]) (by decide) rfl rfl (Nat.le_of_ble_eq_true rfl) rfl ?_
  intro x C hl hZ
  subst hl
  unfold fX6_reach at h
  refine r_aload_n C dX6_reach_0 rfl ?_
  refine r_iload_n C dX6_reach_1 rfl ?_
  refine callR_I C (run_V (As := [.int v1]) (rest := []) (ci := 6) C hZ.2.2 (tX6_isWant _ g a S N v1 _ h) gX6_reach_X6_isWant rfl dsX6_isWant rfl rfl ⟨(Nat.le_of_ble_eq_true rfl), (Nat.le_of_ble_eq_true rfl)⟩ rfl (List.mem_of_getElem? (i := 0) rfl) rfl (Nat.le_of_ble_eq_true rfl) dX6_reach_2 ⟨Nat.zero_le _, Nat.zero_le _⟩) (List.Sublist.refl _) (fun _ => rfl) (fun r1 _ h => ?_)
  refine r_if_eq (tgt := 16) C dX6_reach_5 (by decide) (fun c2 => ?_) (fun c2 => ?_)
  · have h := h.1 c2
    refine r_iconst (v := (-1)) C dX6_reach_16 (by decide) ?_
    exact r_iret C hZ (u := ()) h rfl dX6_reach_17
  · have h := h.2 c2
    refine r_aload_n C dX6_reach_8 rfl ?_
    refine r_iload_n C dX6_reach_9 rfl ?_
    refine callR_I C (run_V (As := [.int v1]) (rest := []) (ci := 6) C hZ.2.2 (tX6_reachOf _ g a S N v1 _ h) gX6_reach_X6_reachOf rfl dsX6_reachOf rfl rfl ⟨(Nat.le_of_ble_eq_true rfl), (Nat.le_of_ble_eq_true rfl)⟩ rfl (List.mem_of_getElem? (i := 0) rfl) rfl (Nat.le_of_ble_eq_true rfl) dX6_reach_10 ⟨Nat.zero_le _, Nat.zero_le _⟩) (List.Sublist.refl _) (fun _ => rfl) (fun r3 _ h => ?_)
    refine r_goto (tgt := 17) C dX6_reach_13 (by decide) ?_
    exact r_iret C hZ (u := ()) h rfl dX6_reach_17
def rmX6_wants : Room := { frames := 2, cells := 0, slots := 0, locals := 42 }
theorem kwX6_wants_0 : Cond.fieldLink RX6 87 "WantsBenchModel" "wants" "I" ∈ wsX6_wants := by decide +kernel
theorem uwX6_wants_6 : ∀ w ∈ wsX60, w ∈ wsX6_wants := by decide +kernel
def fX6_wants_63 (N : Nat) (S : RS) (v1 : Int32) (v2 : Int32) (v4 : Int32) (k0 : Int32) (R : Int32 → Int32 → Prop) (K : Int32 → Prop) (Q : Int32 → Prop) : Prop :=
  (∀ x8 : Int32, x8 = k0 ||| (0 : Int32) → (∀ x9 : Int32, x9 = v4 + 1 → R x8 x9))
set_option maxRecDepth 100000 in
set_option maxHeartbeats 4000000 in
theorem wfX6_wants_63 {x : Nx} {g : Gx} {W0 : va_W} {a : Nat → Nat} {S : RS} {N : Nat} {v1 : Int32} {v2 : Int32} {v4 : Int32} {k0 : Int32} {R : Int32 → Int32 → Prop} {K : Int32 → Prop} {Q : Int32 → Prop} (C : Cx x g cX6_wants RX6 wsX6_wants rmX6_wants yX6_wants (some .int) 5) (hZ : Zq x g W0 (fun _ : Unit => mW g a S) (qI (fun (r : Int32) (_ : Unit) => Q r)) 0 0) (hR : ∀ (w3 : Int32) (w4 : Int32), R w3 w4 → St x 0 0 (mW g a S) [(0, .ref (a 50)), (1, .int v1), (2, .int v2), (3, .int w3), (4, .int w4)] [] 22) (hK : ∀ (w3 : Int32), K w3 → St x 0 0 (mW g a S) [(3, .int w3)] [] 72) (h : fX6_wants_63 N S v1 v2 v4 k0 R K Q) : St x 0 0 (mW g a S) [(0, .ref (a 50)), (1, .int v1), (2, .int v2), (4, .int v4)] [.int k0] 63 := by
  unfold fX6_wants_63 at h
  refine r_iconst (v := 0) C dX6_wants_63 (by decide) ?_
  refine r_ior C dX6_wants_64 ?_
  refine r_topi (fun x8 ex8 => ?_)
  have h := h x8 ex8
  refine r_istore_n (lv' := [(0, .ref (a 50)), (1, .int v1), (2, .int v2), (3, .int x8), (4, .int v4)]) C dX6_wants_65 [some 0, some 1, some 2, none, some 3] (by decide) rfl rfl ?_
  obtain ⟨x9, ex9⟩ : ∃ z : Int32, z = v4 + 1 := ⟨_, rfl⟩
  have h := h x9 ex9
  refine r_iinc (v := x9) (lv' := [(0, .ref (a 50)), (1, .int v1), (2, .int v2), (3, .int x8), (4, .int x9)]) C dX6_wants_66 rfl (by rw [ex9]; rfl) [some 0, some 1, some 2, some 3, none] (by decide) rfl rfl ?_
  refine r_goto (tgt := 22) C dX6_wants_69 (by decide) ?_
  exact hR x8 x9 h
def fX6_wants_22b (N : Nat) (S : RS) (v1 : Int32) (v2 : Int32) (v3 : Int32) (v4 : Int32) (R : Int32 → Int32 → Prop) (K : Int32 → Prop) (Q : Int32 → Prop) : Prop :=
  (((S.1 13) ≤ v4 → K v3) ∧ (¬ (S.1 13) ≤ v4 → (fX6_isThere N S v4 v2 (fun r6 => ((r6 = 0 → (fX6_wants_63 N S v1 v2 v4 v3 R K Q)) ∧ (¬ r6 = 0 → (fX6_reachOf N S v4 (fun r10 => ((¬ ((r10 >>> (v1 &&& 31)) &&& (1 : Int32)) = 1 → (fX6_wants_63 N S v1 v2 v4 v3 R K Q)) ∧ (((r10 >>> (v1 &&& 31)) &&& (1 : Int32)) = 1 → (∀ x12 : Int32, x12 = v3 ||| ((1 : Int32) <<< (v4 &&& 31)) → (∀ x13 : Int32, x13 = v4 + 1 → R x12 x13))))))))))))
set_option maxRecDepth 100000 in
set_option maxHeartbeats 4000000 in
theorem wfX6_wants_22b {x : Nx} {g : Gx} {W0 : va_W} {a : Nat → Nat} {S : RS} {N : Nat} {v1 : Int32} {v2 : Int32} {v3 : Int32} {v4 : Int32} {R : Int32 → Int32 → Prop} {K : Int32 → Prop} {Q : Int32 → Prop} (C : Cx x g cX6_wants RX6 wsX6_wants rmX6_wants yX6_wants (some .int) 5) (hZ : Zq x g W0 (fun _ : Unit => mW g a S) (qI (fun (r : Int32) (_ : Unit) => Q r)) 0 0) (hR : ∀ (w3 : Int32) (w4 : Int32), R w3 w4 → St x 0 0 (mW g a S) [(0, .ref (a 50)), (1, .int v1), (2, .int v2), (3, .int w3), (4, .int w4)] [] 22) (hK : ∀ (w3 : Int32), K w3 → St x 0 0 (mW g a S) [(3, .int w3)] [] 72) (h : fX6_wants_22b N S v1 v2 v3 v4 R K Q) : St x 0 0 (mW g a S) [(0, .ref (a 50)), (1, .int v1), (2, .int v2), (3, .int v3), (4, .int v4)] [] 22 := by
  unfold fX6_wants_22b at h
  refine r_iload C dX6_wants_22 rfl ?_
  refine r_aload_n C dX6_wants_24 rfl ?_
  refine r_get (cn := RX6) (T := TX6) (N := 43) (ci := 6) C uwX6_wants_6 0 rfl rfl 13 (by decide) kwX6_wants_0 (v := .int (S.1 13)) rfl dX6_wants_25 ?_
  refine r_icmp_ge (tgt := 72) C dX6_wants_28 (by decide) (fun c5 => ?_) (fun c5 => ?_)
  · have h := h.1 c5
    refine r_sub [3] (lv' := [(3, .int v3)]) rfl ?_
    exact hK v3 h
  · have h := h.2 c5
    refine r_iload_n C dX6_wants_31 rfl ?_
    refine r_aload_n C dX6_wants_32 rfl ?_
    refine r_iload C dX6_wants_33 rfl ?_
    refine r_iload_n C dX6_wants_35 rfl ?_
    refine callR_I C (run_V (As := [.int v4, .int v2]) (rest := [.int v3]) (ci := 6) C hZ.2.2 (tX6_isThere _ g a S N v4 v2 _ h) gX6_wants_X6_isThere rfl dsX6_isThere rfl rfl ⟨(Nat.le_of_ble_eq_true rfl), (Nat.le_of_ble_eq_true rfl)⟩ rfl (List.mem_of_getElem? (i := 0) rfl) rfl (Nat.le_of_ble_eq_true rfl) dX6_wants_36 ⟨Nat.zero_le _, Nat.zero_le _⟩) (List.Sublist.refl _) (fun _ => rfl) (fun r6 _ h => ?_)
    refine r_if_eq (tgt := 63) C dX6_wants_39 (by decide) (fun c7 => ?_) (fun c7 => ?_)
    · have h := h.1 c7
      refine r_sub [0, 1, 2, 4] (lv' := [(0, .ref (a 50)), (1, .int v1), (2, .int v2), (4, .int v4)]) rfl ?_
      exact wfX6_wants_63 C hZ hR hK h
    · have h := h.2 c7
      refine r_aload_n C dX6_wants_42 rfl ?_
      refine r_iload C dX6_wants_43 rfl ?_
      refine callR_I C (run_V (As := [.int v4]) (rest := [.int v3]) (ci := 6) C hZ.2.2 (tX6_reachOf _ g a S N v4 _ h) gX6_wants_X6_reachOf rfl dsX6_reachOf rfl rfl ⟨(Nat.le_of_ble_eq_true rfl), (Nat.le_of_ble_eq_true rfl)⟩ rfl (List.mem_of_getElem? (i := 0) rfl) rfl (Nat.le_of_ble_eq_true rfl) dX6_wants_45 ⟨Nat.zero_le _, Nat.zero_le _⟩) (List.Sublist.refl _) (fun _ => rfl) (fun r10 _ h => ?_)
      refine r_iload_n C dX6_wants_48 rfl ?_
      refine r_ishr C dX6_wants_49 ?_
      refine r_iconst (v := 1) C dX6_wants_50 (by decide) ?_
      refine r_iand C dX6_wants_51 ?_
      refine r_iconst (v := 1) C dX6_wants_52 (by decide) ?_
      refine r_icmp_ne (tgt := 63) C dX6_wants_53 (by decide) (fun c11 => ?_) (fun c11 => ?_)
      · have h := h.1 c11
        refine r_sub [0, 1, 2, 4] (lv' := [(0, .ref (a 50)), (1, .int v1), (2, .int v2), (4, .int v4)]) rfl ?_
        exact wfX6_wants_63 C hZ hR hK h
      · have h := h.2 c11
        refine r_iconst (v := 1) C dX6_wants_56 (by decide) ?_
        refine r_iload C dX6_wants_57 rfl ?_
        refine r_ishl C dX6_wants_59 ?_
        refine r_goto (tgt := 64) C dX6_wants_60 (by decide) ?_
        refine r_ior C dX6_wants_64 ?_
        refine r_topi (fun x12 ex12 => ?_)
        have h := h x12 ex12
        refine r_istore_n (lv' := [(0, .ref (a 50)), (1, .int v1), (2, .int v2), (3, .int x12), (4, .int v4)]) C dX6_wants_65 [some 0, some 1, some 2, none, some 4] (by decide) rfl rfl ?_
        obtain ⟨x13, ex13⟩ : ∃ z : Int32, z = v4 + 1 := ⟨_, rfl⟩
        have h := h x13 ex13
        refine r_iinc (v := x13) (lv' := [(0, .ref (a 50)), (1, .int v1), (2, .int v2), (3, .int x12), (4, .int x13)]) C dX6_wants_66 rfl (by rw [ex13]; rfl) [some 0, some 1, some 2, some 3, none] (by decide) rfl rfl ?_
        refine r_goto (tgt := 22) C dX6_wants_69 (by decide) ?_
        exact hR x12 x13 h
def fX6_wants_22 (N : Nat) (S : RS) (v1 : Int32) (v2 : Int32) (K : Int32 → Prop) (Q : Int32 → Prop) : Nat → Int32 → Int32 → Prop
  | 0, _, _ => False
  | n + 1, v3, v4 => fX6_wants_22b N S v1 v2 v3 v4 (fun v3 v4 => fX6_wants_22 N S v1 v2 K Q n v3 v4) K Q
set_option maxRecDepth 100000 in
set_option maxHeartbeats 4000000 in
theorem wfX6_wants_22 {x : Nx} {g : Gx} {W0 : va_W} {a : Nat → Nat} {S : RS} {N : Nat} {v1 : Int32} {v2 : Int32} {K : Int32 → Prop} {Q : Int32 → Prop} (C : Cx x g cX6_wants RX6 wsX6_wants rmX6_wants yX6_wants (some .int) 5) (hZ : Zq x g W0 (fun _ : Unit => mW g a S) (qI (fun (r : Int32) (_ : Unit) => Q r)) 0 0) (hK : ∀ (w3 : Int32), K w3 → St x 0 0 (mW g a S) [(3, .int w3)] [] 72) : ∀ (n : Nat) (v3 : Int32) (v4 : Int32), fX6_wants_22 N S v1 v2 K Q n v3 v4 → St x 0 0 (mW g a S) [(0, .ref (a 50)), (1, .int v1), (2, .int v2), (3, .int v3), (4, .int v4)] [] 22 := by
  intro n
  induction n with
  | zero => intro v3 v4 h; exact False.elim h
  | succ n ih => intro v3 v4 h; exact wfX6_wants_22b C hZ ih hK h
def fX6_wants (N : Nat) (S : RS) (v1 : Int32) (v2 : Int32) (Q : Int32 → Prop) : Prop :=
  (fX6_isPart N S v1 (fun r1 => ((r1 = 0 → Q (-1)) ∧ (¬ r1 = 0 → (fX6_isDay N v2 (fun r3 => ((¬ r3 = 0 → (fX6_wants_22 N S v1 v2 (fun x14 => Q x14) Q N 0 0)) ∧ (r3 = 0 → Q (-1)))))))))
set_option maxRecDepth 100000 in
set_option maxHeartbeats 4000000 in
theorem tX6_wants (l : Launch) (g : Gx) (a : Nat → Nat) (S : RS) (N : Nat) (v1 : Int32) (v2 : Int32) (Q : Int32 → Prop) (h : fX6_wants N S v1 v2 Q) : MetG l g yX6_wants wsX6_wants rmX6_wants [.ref (a 50), .int v1, .int v2] (mW g a S) (fun _ : Unit => mW g a S) (qI (fun (r : Int32) (_ : Unit) => Q r)) 0 0 := by
  refine met_of (cc := cX6_wants) (own := RX6) (nL := 5) (ret := (some .int)) (lv := [(0, .ref (a 50)), (1, .int v1), (2, .int v2)]) (by decide) rfl rfl (Nat.le_of_ble_eq_true rfl) rfl ?_
  intro x C hl hZ
  subst hl
  unfold fX6_wants at h
  refine r_aload_n C dX6_wants_0 rfl ?_
  refine r_iload_n C dX6_wants_1 rfl ?_
  refine callR_I C (run_V (As := [.int v1]) (rest := []) (ci := 6) C hZ.2.2 (tX6_isPart _ g a S N v1 _ h) gX6_wants_X6_isPart rfl dsX6_isPart rfl rfl ⟨(Nat.le_of_ble_eq_true rfl), (Nat.le_of_ble_eq_true rfl)⟩ rfl (List.mem_of_getElem? (i := 0) rfl) rfl (Nat.le_of_ble_eq_true rfl) dX6_wants_2 ⟨Nat.zero_le _, Nat.zero_le _⟩) (List.Sublist.refl _) (fun _ => rfl) (fun r1 _ h => ?_)
  refine r_if_eq (tgt := 15) C dX6_wants_5 (by decide) (fun c2 => ?_) (fun c2 => ?_)
  · have h := h.1 c2
    refine r_iconst (v := (-1)) C dX6_wants_15 (by decide) ?_
    exact r_iret C hZ (u := ()) h rfl dX6_wants_16
  · have h := h.2 c2
    refine r_iload_n C dX6_wants_8 rfl ?_
    refine callR_I C (run_S (As := [.int v2]) (rest := []) C hZ.2.2 (tX6_isDay _ g N v2 _ h) gX6_wants_X6_isDay rfl dsX6_isDay rfl rfl ⟨(Nat.le_of_ble_eq_true rfl), (Nat.le_of_ble_eq_true rfl)⟩ rfl (Nat.le_of_ble_eq_true rfl) dX6_wants_9 ⟨Nat.zero_le _, Nat.zero_le _⟩) (List.nil_sublist _) (fun _ => rfl) (fun r3 _ h => ?_)
    refine r_if_ne (tgt := 17) C dX6_wants_12 (by decide) (fun c4 => ?_) (fun c4 => ?_)
    · have h := h.1 c4
      refine r_iconst (v := 0) C dX6_wants_17 (by decide) ?_
      refine r_istore_n (lv' := [(0, .ref (a 50)), (1, .int v1), (2, .int v2), (3, .int 0)]) C dX6_wants_18 [some 0, some 1, some 2, none] (by decide) rfl rfl ?_
      refine r_iconst (v := 0) C dX6_wants_19 (by decide) ?_
      refine r_istore (lv' := [(0, .ref (a 50)), (1, .int v1), (2, .int v2), (3, .int 0), (4, .int 0)]) C dX6_wants_20 [some 0, some 1, some 2, some 3, none] (by decide) rfl rfl ?_
      refine wfX6_wants_22 C hZ (fun x14 h => ?_) N _ _ h
      refine r_iload_n C dX6_wants_72 rfl ?_
      exact r_iret C hZ (u := ()) h rfl dX6_wants_73
    · have h := h.2 c4
      refine r_iconst (v := (-1)) C dX6_wants_15 (by decide) ?_
      exact r_iret C hZ (u := ()) h rfl dX6_wants_16
def rmX6_count : Room := { frames := 1, cells := 0, slots := 0, locals := 22 }
theorem kwX6_count_0 : Cond.fieldLink RX6 87 "WantsBenchModel" "wants" "I" ∈ wsX6_count := by decide +kernel
theorem uwX6_count_6 : ∀ w ∈ wsX60, w ∈ wsX6_count := by decide +kernel
theorem kwX6_count_2 : Cond.fieldLink RX6 91 "WantsBenchModel" "today" "I" ∈ wsX6_count := by decide +kernel
theorem kwX6_count_3 : Cond.fieldLink RX6 235 "WantsBenchModel" "runMany" "I" ∈ wsX6_count := by decide +kernel
theorem kwX6_count_4 : Cond.fieldLink RX6 247 "WantsBenchModel" "parts" "I" ∈ wsX6_count := by decide +kernel
theorem kwX6_count_5 : Cond.fieldLink RX6 98 "WantsBenchModel" "tapeMany" "I" ∈ wsX6_count := by decide +kernel
def fX6_count_4b (N : Nat) (S : RS) (v1 : Int32) (v2 : Int32) (v3 : Int32) (R : Int32 → Int32 → Prop) (K : Int32 → Prop) (Q : Int32 → Prop) : Prop :=
  (((S.1 13) ≤ v3 → K v2) ∧ (¬ (S.1 13) ≤ v3 → (fX6_isThere N S v3 (S.1 0) (fun r2 => ((r2 = 0 → (∀ x4 : Int32, x4 = v2 + (0 : Int32) → (∀ x5 : Int32, x5 = v3 + 1 → R x4 x5))) ∧ (¬ r2 = 0 → (∀ x6 : Int32, x6 = v2 + (1 : Int32) → (∀ x7 : Int32, x7 = v3 + 1 → R x6 x7))))))))
set_option maxRecDepth 100000 in
set_option maxHeartbeats 4000000 in
theorem wfX6_count_4b {x : Nx} {g : Gx} {W0 : va_W} {a : Nat → Nat} {S : RS} {N : Nat} {v1 : Int32} {v2 : Int32} {v3 : Int32} {R : Int32 → Int32 → Prop} {K : Int32 → Prop} {Q : Int32 → Prop} (C : Cx x g cX6_count RX6 wsX6_count rmX6_count yX6_count (some .int) 4) (hZ : Zq x g W0 (fun _ : Unit => mW g a S) (qI (fun (r : Int32) (_ : Unit) => Q r)) 0 0) (hR : ∀ (w2 : Int32) (w3 : Int32), R w2 w3 → St x 0 0 (mW g a S) [(0, .ref (a 50)), (1, .int v1), (2, .int w2), (3, .int w3)] [] 4) (hK : ∀ (w2 : Int32), K w2 → St x 0 0 (mW g a S) [(0, .ref (a 50)), (1, .int v1), (2, .int w2)] [] 38) (h : fX6_count_4b N S v1 v2 v3 R K Q) : St x 0 0 (mW g a S) [(0, .ref (a 50)), (1, .int v1), (2, .int v2), (3, .int v3)] [] 4 := by
  unfold fX6_count_4b at h
  refine r_iload_n C dX6_count_4 rfl ?_
  refine r_aload_n C dX6_count_5 rfl ?_
  refine r_get (cn := RX6) (T := TX6) (N := 43) (ci := 6) C uwX6_count_6 0 rfl rfl 13 (by decide) kwX6_count_0 (v := .int (S.1 13)) rfl dX6_count_6 ?_
  refine r_icmp_ge (tgt := 38) C dX6_count_9 (by decide) (fun c1 => ?_) (fun c1 => ?_)
  · have h := h.1 c1
    refine r_sub [0, 1, 2] (lv' := [(0, .ref (a 50)), (1, .int v1), (2, .int v2)]) rfl ?_
    exact hK v2 h
  · have h := h.2 c1
    refine r_iload_n C dX6_count_12 rfl ?_
    refine r_aload_n C dX6_count_13 rfl ?_
    refine r_iload_n C dX6_count_14 rfl ?_
    refine r_aload_n C dX6_count_15 rfl ?_
    refine r_get (cn := RX6) (T := TX6) (N := 43) (ci := 6) C uwX6_count_6 0 rfl rfl 0 (by decide) kwX6_count_2 (v := .int (S.1 0)) rfl dX6_count_16 ?_
    refine callR_I C (run_V (As := [.int v3, .int (S.1 0)]) (rest := [.int v2]) (ci := 6) C hZ.2.2 (tX6_isThere _ g a S N v3 (S.1 0) _ h) gX6_count_X6_isThere rfl dsX6_isThere rfl rfl ⟨(Nat.le_of_ble_eq_true rfl), (Nat.le_of_ble_eq_true rfl)⟩ rfl (List.mem_of_getElem? (i := 0) rfl) rfl (Nat.le_of_ble_eq_true rfl) dX6_count_19 ⟨Nat.zero_le _, Nat.zero_le _⟩) (List.Sublist.refl _) (fun _ => rfl) (fun r2 _ h => ?_)
    refine r_if_eq (tgt := 29) C dX6_count_22 (by decide) (fun c3 => ?_) (fun c3 => ?_)
    · have h := h.1 c3
      refine r_iconst (v := 0) C dX6_count_29 (by decide) ?_
      refine r_iadd C dX6_count_30 ?_
      refine r_topi (fun x4 ex4 => ?_)
      have h := h x4 ex4
      refine r_istore_n (lv' := [(0, .ref (a 50)), (1, .int v1), (2, .int x4), (3, .int v3)]) C dX6_count_31 [some 0, some 1, none, some 3] (by decide) rfl rfl ?_
      obtain ⟨x5, ex5⟩ : ∃ z : Int32, z = v3 + 1 := ⟨_, rfl⟩
      have h := h x5 ex5
      refine r_iinc (v := x5) (lv' := [(0, .ref (a 50)), (1, .int v1), (2, .int x4), (3, .int x5)]) C dX6_count_32 rfl (by rw [ex5]; rfl) [some 0, some 1, some 2, none] (by decide) rfl rfl ?_
      refine r_goto (tgt := 4) C dX6_count_35 (by decide) ?_
      exact hR x4 x5 h
    · have h := h.2 c3
      refine r_iconst (v := 1) C dX6_count_25 (by decide) ?_
      refine r_goto (tgt := 30) C dX6_count_26 (by decide) ?_
      refine r_iadd C dX6_count_30 ?_
      refine r_topi (fun x6 ex6 => ?_)
      have h := h x6 ex6
      refine r_istore_n (lv' := [(0, .ref (a 50)), (1, .int v1), (2, .int x6), (3, .int v3)]) C dX6_count_31 [some 0, some 1, none, some 3] (by decide) rfl rfl ?_
      obtain ⟨x7, ex7⟩ : ∃ z : Int32, z = v3 + 1 := ⟨_, rfl⟩
      have h := h x7 ex7
      refine r_iinc (v := x7) (lv' := [(0, .ref (a 50)), (1, .int v1), (2, .int x6), (3, .int x7)]) C dX6_count_32 rfl (by rw [ex7]; rfl) [some 0, some 1, some 2, none] (by decide) rfl rfl ?_
      refine r_goto (tgt := 4) C dX6_count_35 (by decide) ?_
      exact hR x6 x7 h
def fX6_count_4 (N : Nat) (S : RS) (v1 : Int32) (K : Int32 → Prop) (Q : Int32 → Prop) : Nat → Int32 → Int32 → Prop
  | 0, _, _ => False
  | n + 1, v2, v3 => fX6_count_4b N S v1 v2 v3 (fun v2 v3 => fX6_count_4 N S v1 K Q n v2 v3) K Q
set_option maxRecDepth 100000 in
set_option maxHeartbeats 4000000 in
theorem wfX6_count_4 {x : Nx} {g : Gx} {W0 : va_W} {a : Nat → Nat} {S : RS} {N : Nat} {v1 : Int32} {K : Int32 → Prop} {Q : Int32 → Prop} (C : Cx x g cX6_count RX6 wsX6_count rmX6_count yX6_count (some .int) 4) (hZ : Zq x g W0 (fun _ : Unit => mW g a S) (qI (fun (r : Int32) (_ : Unit) => Q r)) 0 0) (hK : ∀ (w2 : Int32), K w2 → St x 0 0 (mW g a S) [(0, .ref (a 50)), (1, .int v1), (2, .int w2)] [] 38) : ∀ (n : Nat) (v2 : Int32) (v3 : Int32), fX6_count_4 N S v1 K Q n v2 v3 → St x 0 0 (mW g a S) [(0, .ref (a 50)), (1, .int v1), (2, .int v2), (3, .int v3)] [] 4 := by
  intro n
  induction n with
  | zero => intro v2 v3 h; exact False.elim h
  | succ n ih => intro v2 v3 h; exact wfX6_count_4b C hZ ih hK h
def fX6_count (N : Nat) (S : RS) (v1 : Int32) (Q : Int32 → Prop) : Prop :=
  (fX6_count_4 N S v1 (fun x8 => (((v1.toInt < 0 ∨ 5 < v1.toInt) → Q (-1)) ∧ (v1 = 0 → Q (S.1 13)) ∧ (v1 = 1 → Q (S.1 0)) ∧ (v1 = 2 → Q x8) ∧ (v1 = 3 → Q (S.1 31)) ∧ (v1 = 4 → Q (S.1 32)) ∧ (v1 = 5 → Q (S.1 2)))) Q N 0 0)
set_option maxRecDepth 100000 in
set_option maxHeartbeats 4000000 in
theorem tX6_count (l : Launch) (g : Gx) (a : Nat → Nat) (S : RS) (N : Nat) (v1 : Int32) (Q : Int32 → Prop) (h : fX6_count N S v1 Q) : MetG l g yX6_count wsX6_count rmX6_count [.ref (a 50), .int v1] (mW g a S) (fun _ : Unit => mW g a S) (qI (fun (r : Int32) (_ : Unit) => Q r)) 0 0 := by
  refine met_of (cc := cX6_count) (own := RX6) (nL := 4) (ret := (some .int)) (lv := [(0, .ref (a 50)), (1, .int v1)]) (by decide) rfl rfl (Nat.le_of_ble_eq_true rfl) rfl ?_
  intro x C hl hZ
  subst hl
  unfold fX6_count at h
  refine r_iconst (v := 0) C dX6_count_0 (by decide) ?_
  refine r_istore_n (lv' := [(0, .ref (a 50)), (1, .int v1), (2, .int 0)]) C dX6_count_1 [some 0, some 1, none] (by decide) rfl rfl ?_
  refine r_iconst (v := 0) C dX6_count_2 (by decide) ?_
  refine r_istore_n (lv' := [(0, .ref (a 50)), (1, .int v1), (2, .int 0), (3, .int 0)]) C dX6_count_3 [some 0, some 1, some 2, none] (by decide) rfl rfl ?_
  refine wfX6_count_4 C hZ (fun x8 h => ?_) N _ _ h
  refine r_iload_n C dX6_count_38 rfl ?_
  rcases sw_cases 5 v1 with hs9 | ⟨k10, hk11, hs9⟩
  · have h := h.1 hs9
    refine r_tableOut (tgt := 103) C dX6_count_39 hs9 (by decide) ?_
    refine r_iconst (v := (-1)) C dX6_count_103 (by decide) ?_
    exact r_iret C hZ (u := ()) h rfl dX6_count_104
  · match k10, hk11, hs9 with
    | 0, _, hs9 =>
      have h := h.2.1 hs9
      rw [hs9]
      refine r_tableIn (tgt := 76) C dX6_count_39 (by decide) (by decide) (off := 37) (by decide) (by decide) ?_
      refine r_aload_n C dX6_count_76 rfl ?_
      refine r_get (cn := RX6) (T := TX6) (N := 43) (ci := 6) C uwX6_count_6 0 rfl rfl 13 (by decide) kwX6_count_0 (v := .int (S.1 13)) rfl dX6_count_77 ?_
      exact r_iret C hZ (u := ()) h rfl dX6_count_80
    | 1, _, hs9 =>
      have h := h.2.2.1 hs9
      rw [hs9]
      refine r_tableIn (tgt := 81) C dX6_count_39 (by decide) (by decide) (off := 42) (by decide) (by decide) ?_
      refine r_aload_n C dX6_count_81 rfl ?_
      refine r_get (cn := RX6) (T := TX6) (N := 43) (ci := 6) C uwX6_count_6 0 rfl rfl 0 (by decide) kwX6_count_2 (v := .int (S.1 0)) rfl dX6_count_82 ?_
      exact r_iret C hZ (u := ()) h rfl dX6_count_85
    | 2, _, hs9 =>
      have h := h.2.2.2.1 hs9
      rw [hs9]
      refine r_tableIn (tgt := 86) C dX6_count_39 (by decide) (by decide) (off := 47) (by decide) (by decide) ?_
      refine r_iload_n C dX6_count_86 rfl ?_
      exact r_iret C hZ (u := ()) h rfl dX6_count_87
    | 3, _, hs9 =>
      have h := h.2.2.2.2.1 hs9
      rw [hs9]
      refine r_tableIn (tgt := 88) C dX6_count_39 (by decide) (by decide) (off := 49) (by decide) (by decide) ?_
      refine r_aload_n C dX6_count_88 rfl ?_
      refine r_get (cn := RX6) (T := TX6) (N := 43) (ci := 6) C uwX6_count_6 0 rfl rfl 31 (by decide) kwX6_count_3 (v := .int (S.1 31)) rfl dX6_count_89 ?_
      exact r_iret C hZ (u := ()) h rfl dX6_count_92
    | 4, _, hs9 =>
      have h := h.2.2.2.2.2.1 hs9
      rw [hs9]
      refine r_tableIn (tgt := 93) C dX6_count_39 (by decide) (by decide) (off := 54) (by decide) (by decide) ?_
      refine r_aload_n C dX6_count_93 rfl ?_
      refine r_get (cn := RX6) (T := TX6) (N := 43) (ci := 6) C uwX6_count_6 0 rfl rfl 32 (by decide) kwX6_count_4 (v := .int (S.1 32)) rfl dX6_count_94 ?_
      exact r_iret C hZ (u := ()) h rfl dX6_count_97
    | 5, _, hs9 =>
      have h := h.2.2.2.2.2.2 hs9
      rw [hs9]
      refine r_tableIn (tgt := 98) C dX6_count_39 (by decide) (by decide) (off := 59) (by decide) (by decide) ?_
      refine r_aload_n C dX6_count_98 rfl ?_
      refine r_get (cn := RX6) (T := TX6) (N := 43) (ci := 6) C uwX6_count_6 0 rfl rfl 2 (by decide) kwX6_count_5 (v := .int (S.1 2)) rfl dX6_count_99 ?_
      exact r_iret C hZ (u := ()) h rfl dX6_count_102
    | k10 + 6, hk11, _ => exact absurd hk11 (by omega)
