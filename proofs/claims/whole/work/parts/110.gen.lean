def rmX6_holdsOut : Room := { frames := 1, cells := 0, slots := 0, locals := 27 }
theorem kwX6_holdsOut_0 : Cond.fieldLink RX6 53 "WantsBenchModel" "isSafe" "[Z" ∈ wsX6_holdsOut := by decide +kernel
theorem uwX6_holdsOut_6 : ∀ w ∈ wsX60, w ∈ wsX6_holdsOut := by decide +kernel
def fX6_holdsOut_13b (N : Nat) (S : RS) (v1 : Int32) (v2 : Int32) (v3 : Int32) (v4 : Int32) (R : Int32 → Int32 → Prop) (K : Int32 → Prop) (Q : Int32 → Prop) : Prop :=
  ((8 ≤ v4 → K v3) ∧ (¬ 8 ≤ v4 → ((¬ v3 = 0 → K v3) ∧ (v3 = 0 → (fX6_behind N S v1 (((8 : Int32) * v2) + v4) (fun r4 => ((r4 < 0 → (∀ x6 : Int32, x6 = v4 + 1 → R 0 x6)) ∧ (¬ r4 < 0 → (vp_in r4 1024 ∧ (((S.2.1 19 r4.toNatClampNeg) = 0 → (∀ x9 : Int32, x9 = v4 + 1 → R 0 x9)) ∧ (¬ (S.2.1 19 r4.toNatClampNeg) = 0 → (∀ x10 : Int32, x10 = v4 + 1 → R 1 x10))))))))))))
set_option maxRecDepth 100000 in
set_option maxHeartbeats 4000000 in
theorem wfX6_holdsOut_13b {x : Nx} {g : Gx} {W0 : va_W} {a : Nat → Nat} {S : RS} {N : Nat} {v1 : Int32} {v2 : Int32} {v3 : Int32} {v4 : Int32} {R : Int32 → Int32 → Prop} {K : Int32 → Prop} {Q : Int32 → Prop} (C : Cx x g cX6_holdsOut RX6 wsX6_holdsOut rmX6_holdsOut yX6_holdsOut (some .boolean) 6) (hZ : Zq x g W0 (fun _ : Unit => mW g a S) (qI (fun (r : Int32) (_ : Unit) => Q r)) 0 0) (hR : ∀ (w3 : Int32) (w4 : Int32), R w3 w4 → St x 0 0 (mW g a S) [(0, .ref (a 50)), (1, .int v1), (2, .int v2), (3, .int w3), (4, .int w4)] [] 13) (hK : ∀ (w3 : Int32), K w3 → St x 0 0 (mW g a S) [(0, .ref (a 50)), (1, .int v1), (2, .int v2), (3, .int w3)] [] 65) (h : fX6_holdsOut_13b N S v1 v2 v3 v4 R K Q) : St x 0 0 (mW g a S) [(0, .ref (a 50)), (1, .int v1), (2, .int v2), (3, .int v3), (4, .int v4)] [] 13 := by
  unfold fX6_holdsOut_13b at h
  refine r_iload C dX6_holdsOut_13 rfl ?_
  refine r_bipush (v := 8) C dX6_holdsOut_15 (by decide) ?_
  refine r_icmp_ge (tgt := 65) C dX6_holdsOut_17 (by decide) (fun c2 => ?_) (fun c2 => ?_)
  · have h := h.1 c2
    refine r_sub [0, 1, 2, 3] (lv' := [(0, .ref (a 50)), (1, .int v1), (2, .int v2), (3, .int v3)]) rfl ?_
    exact hK v3 h
  · have h := h.2 c2
    refine r_iload_n C dX6_holdsOut_20 rfl ?_
    refine r_if_ne (tgt := 65) C dX6_holdsOut_21 (by decide) (fun c3 => ?_) (fun c3 => ?_)
    · have h := h.1 c3
      refine r_sub [0, 1, 2, 3] (lv' := [(0, .ref (a 50)), (1, .int v1), (2, .int v2), (3, .int v3)]) rfl ?_
      exact hK v3 h
    · have h := h.2 c3
      refine r_aload_n C dX6_holdsOut_24 rfl ?_
      refine r_iload_n C dX6_holdsOut_25 rfl ?_
      refine r_bipush (v := 8) C dX6_holdsOut_26 (by decide) ?_
      refine r_iload_n C dX6_holdsOut_28 rfl ?_
      refine r_imul C dX6_holdsOut_29 ?_
      refine r_iload C dX6_holdsOut_30 rfl ?_
      refine r_iadd C dX6_holdsOut_32 ?_
      refine callR_I C (run_V (As := [.int v1, .int (((8 : Int32) * v2) + v4)]) (rest := []) (ci := 6) C hZ.2.2 (tX6_behind _ g a S N v1 (((8 : Int32) * v2) + v4) _ h) gX6_holdsOut_X6_behind rfl dsX6_behind rfl rfl ⟨(Nat.le_of_ble_eq_true rfl), (Nat.le_of_ble_eq_true rfl)⟩ rfl (List.mem_of_getElem? (i := 0) rfl) rfl (Nat.le_of_ble_eq_true rfl) dX6_holdsOut_33 ⟨Nat.zero_le _, Nat.zero_le _⟩) (List.Sublist.refl _) (fun _ => rfl) (fun r4 _ h => ?_)
      refine r_istore (lv' := [(0, .ref (a 50)), (1, .int v1), (2, .int v2), (4, .int v4), (5, .int r4)]) C dX6_holdsOut_36 [some 0, some 1, some 2, some 4, none] (by decide) rfl rfl ?_
      refine r_iload C dX6_holdsOut_38 rfl ?_
      refine r_if_lt (tgt := 57) C dX6_holdsOut_40 (by decide) (fun c5 => ?_) (fun c5 => ?_)
      · have h := h.1 c5
        refine r_iconst (v := 0) C dX6_holdsOut_57 (by decide) ?_
        refine r_istore_n (lv' := [(0, .ref (a 50)), (1, .int v1), (2, .int v2), (3, .int 0), (4, .int v4)]) C dX6_holdsOut_58 [some 0, some 1, some 2, none, some 3] (by decide) rfl rfl ?_
        obtain ⟨x6, ex6⟩ : ∃ z : Int32, z = v4 + 1 := ⟨_, rfl⟩
        have h := h x6 ex6
        refine r_iinc (v := x6) (lv' := [(0, .ref (a 50)), (1, .int v1), (2, .int v2), (3, .int 0), (4, .int x6)]) C dX6_holdsOut_59 rfl (by rw [ex6]; rfl) [some 0, some 1, some 2, some 3, none] (by decide) rfl rfl ?_
        refine r_goto (tgt := 13) C dX6_holdsOut_62 (by decide) ?_
        exact hR 0 x6 h
      · have h := h.2 c5
        refine r_aload_n C dX6_holdsOut_43 rfl ?_
        refine r_get (cn := RX6) (T := TX6) (N := 43) (ci := 6) C uwX6_holdsOut_6 0 rfl rfl 19 (by decide) kwX6_holdsOut_0 (v := .ref (a 19)) rfl dX6_holdsOut_44 ?_
        refine r_iload C dX6_holdsOut_47 rfl ?_
        obtain ⟨hi7, h⟩ := h
        refine r_zald C 15 rfl hi7 dX6_holdsOut_49 ?_
        refine r_if_eq (tgt := 57) C dX6_holdsOut_50 (by decide) (fun c8 => ?_) (fun c8 => ?_)
        · have h := h.1 c8
          refine r_iconst (v := 0) C dX6_holdsOut_57 (by decide) ?_
          refine r_istore_n (lv' := [(0, .ref (a 50)), (1, .int v1), (2, .int v2), (3, .int 0), (4, .int v4)]) C dX6_holdsOut_58 [some 0, some 1, some 2, none, some 3] (by decide) rfl rfl ?_
          obtain ⟨x9, ex9⟩ : ∃ z : Int32, z = v4 + 1 := ⟨_, rfl⟩
          have h := h x9 ex9
          refine r_iinc (v := x9) (lv' := [(0, .ref (a 50)), (1, .int v1), (2, .int v2), (3, .int 0), (4, .int x9)]) C dX6_holdsOut_59 rfl (by rw [ex9]; rfl) [some 0, some 1, some 2, some 3, none] (by decide) rfl rfl ?_
          refine r_goto (tgt := 13) C dX6_holdsOut_62 (by decide) ?_
          exact hR 0 x9 h
        · have h := h.2 c8
          refine r_iconst (v := 1) C dX6_holdsOut_53 (by decide) ?_
          refine r_goto (tgt := 58) C dX6_holdsOut_54 (by decide) ?_
          refine r_istore_n (lv' := [(0, .ref (a 50)), (1, .int v1), (2, .int v2), (3, .int 1), (4, .int v4)]) C dX6_holdsOut_58 [some 0, some 1, some 2, none, some 3] (by decide) rfl rfl ?_
          obtain ⟨x10, ex10⟩ : ∃ z : Int32, z = v4 + 1 := ⟨_, rfl⟩
          have h := h x10 ex10
          refine r_iinc (v := x10) (lv' := [(0, .ref (a 50)), (1, .int v1), (2, .int v2), (3, .int 1), (4, .int x10)]) C dX6_holdsOut_59 rfl (by rw [ex10]; rfl) [some 0, some 1, some 2, some 3, none] (by decide) rfl rfl ?_
          refine r_goto (tgt := 13) C dX6_holdsOut_62 (by decide) ?_
          exact hR 1 x10 h
def fX6_holdsOut_13 (N : Nat) (S : RS) (v1 : Int32) (v2 : Int32) (K : Int32 → Prop) (Q : Int32 → Prop) : Nat → Int32 → Int32 → Prop
  | 0, _, _ => False
  | n + 1, v3, v4 => fX6_holdsOut_13b N S v1 v2 v3 v4 (fun v3 v4 => fX6_holdsOut_13 N S v1 v2 K Q n v3 v4) K Q
set_option maxRecDepth 100000 in
set_option maxHeartbeats 4000000 in
theorem wfX6_holdsOut_13 {x : Nx} {g : Gx} {W0 : va_W} {a : Nat → Nat} {S : RS} {N : Nat} {v1 : Int32} {v2 : Int32} {K : Int32 → Prop} {Q : Int32 → Prop} (C : Cx x g cX6_holdsOut RX6 wsX6_holdsOut rmX6_holdsOut yX6_holdsOut (some .boolean) 6) (hZ : Zq x g W0 (fun _ : Unit => mW g a S) (qI (fun (r : Int32) (_ : Unit) => Q r)) 0 0) (hK : ∀ (w3 : Int32), K w3 → St x 0 0 (mW g a S) [(0, .ref (a 50)), (1, .int v1), (2, .int v2), (3, .int w3)] [] 65) : ∀ (n : Nat) (v3 : Int32) (v4 : Int32), fX6_holdsOut_13 N S v1 v2 K Q n v3 v4 → St x 0 0 (mW g a S) [(0, .ref (a 50)), (1, .int v1), (2, .int v2), (3, .int v3), (4, .int v4)] [] 13 := by
  intro n
  induction n with
  | zero => intro v3 v4 h; exact False.elim h
  | succ n ih => intro v3 v4 h; exact wfX6_holdsOut_13b C hZ ih hK h
def fX6_holdsOut_65 (N : Nat) (S : RS) (v1 : Int32) (v2 : Int32) (v3 : Int32) (R : Int32 → Prop) (K : Prop) (Q : Int32 → Prop) : Prop :=
  ((¬ v3 = 0 → (∀ x13 : Int32, x13 = v2 + 1 → R x13)) ∧ (v3 = 0 → Q 0))
set_option maxRecDepth 100000 in
set_option maxHeartbeats 4000000 in
theorem wfX6_holdsOut_65 {x : Nx} {g : Gx} {W0 : va_W} {a : Nat → Nat} {S : RS} {N : Nat} {v1 : Int32} {v2 : Int32} {v3 : Int32} {R : Int32 → Prop} {K : Prop} {Q : Int32 → Prop} (C : Cx x g cX6_holdsOut RX6 wsX6_holdsOut rmX6_holdsOut yX6_holdsOut (some .boolean) 6) (hZ : Zq x g W0 (fun _ : Unit => mW g a S) (qI (fun (r : Int32) (_ : Unit) => Q r)) 0 0) (hR : ∀ (w2 : Int32), R w2 → St x 0 0 (mW g a S) [(0, .ref (a 50)), (1, .int v1), (2, .int w2)] [] 2) (hK : K → St x 0 0 (mW g a S) [] [] 77) (h : fX6_holdsOut_65 N S v1 v2 v3 R K Q) : St x 0 0 (mW g a S) [(0, .ref (a 50)), (1, .int v1), (2, .int v2), (3, .int v3)] [] 65 := by
  unfold fX6_holdsOut_65 at h
  refine r_iload_n C dX6_holdsOut_65 rfl ?_
  refine r_if_ne (tgt := 71) C dX6_holdsOut_66 (by decide) (fun c12 => ?_) (fun c12 => ?_)
  · have h := h.1 c12
    obtain ⟨x13, ex13⟩ : ∃ z : Int32, z = v2 + 1 := ⟨_, rfl⟩
    have h := h x13 ex13
    refine r_iinc (v := x13) (lv' := [(0, .ref (a 50)), (1, .int v1), (2, .int x13)]) C dX6_holdsOut_71 rfl (by rw [ex13]; rfl) [some 0, some 1, none] (by decide) rfl rfl ?_
    refine r_goto (tgt := 2) C dX6_holdsOut_74 (by decide) ?_
    exact hR x13 h
  · have h := h.2 c12
    refine r_iconst (v := 0) C dX6_holdsOut_69 (by decide) ?_
    exact r_zret C hZ (u := ()) (by decide) h rfl dX6_holdsOut_70
def fX6_holdsOut_2b (N : Nat) (S : RS) (v1 : Int32) (v2 : Int32) (R : Int32 → Prop) (K : Prop) (Q : Int32 → Prop) : Prop :=
  ((8 ≤ v2 → K) ∧ (¬ 8 ≤ v2 → (fX6_holdsOut_13 N S v1 v2 (fun x11 => (fX6_holdsOut_65 N S v1 v2 x11 R K Q)) Q N 0 0)))
set_option maxRecDepth 100000 in
set_option maxHeartbeats 4000000 in
theorem wfX6_holdsOut_2b {x : Nx} {g : Gx} {W0 : va_W} {a : Nat → Nat} {S : RS} {N : Nat} {v1 : Int32} {v2 : Int32} {R : Int32 → Prop} {K : Prop} {Q : Int32 → Prop} (C : Cx x g cX6_holdsOut RX6 wsX6_holdsOut rmX6_holdsOut yX6_holdsOut (some .boolean) 6) (hZ : Zq x g W0 (fun _ : Unit => mW g a S) (qI (fun (r : Int32) (_ : Unit) => Q r)) 0 0) (hR : ∀ (w2 : Int32), R w2 → St x 0 0 (mW g a S) [(0, .ref (a 50)), (1, .int v1), (2, .int w2)] [] 2) (hK : K → St x 0 0 (mW g a S) [] [] 77) (h : fX6_holdsOut_2b N S v1 v2 R K Q) : St x 0 0 (mW g a S) [(0, .ref (a 50)), (1, .int v1), (2, .int v2)] [] 2 := by
  unfold fX6_holdsOut_2b at h
  refine r_iload_n C dX6_holdsOut_2 rfl ?_
  refine r_bipush (v := 8) C dX6_holdsOut_3 (by decide) ?_
  refine r_icmp_ge (tgt := 77) C dX6_holdsOut_5 (by decide) (fun c1 => ?_) (fun c1 => ?_)
  · have h := h.1 c1
    refine r_sub [] (lv' := []) rfl ?_
    exact hK h
  · have h := h.2 c1
    refine r_iconst (v := 0) C dX6_holdsOut_8 (by decide) ?_
    refine r_istore_n (lv' := [(0, .ref (a 50)), (1, .int v1), (2, .int v2), (3, .int 0)]) C dX6_holdsOut_9 [some 0, some 1, some 2, none] (by decide) rfl rfl ?_
    refine r_iconst (v := 0) C dX6_holdsOut_10 (by decide) ?_
    refine r_istore (lv' := [(0, .ref (a 50)), (1, .int v1), (2, .int v2), (3, .int 0), (4, .int 0)]) C dX6_holdsOut_11 [some 0, some 1, some 2, some 3, none] (by decide) rfl rfl ?_
    refine wfX6_holdsOut_13 C hZ (fun x11 h => ?_) N _ _ h
    exact wfX6_holdsOut_65 C hZ hR hK h
def fX6_holdsOut_2 (N : Nat) (S : RS) (v1 : Int32) (K : Prop) (Q : Int32 → Prop) : Nat → Int32 → Prop
  | 0, _ => False
  | n + 1, v2 => fX6_holdsOut_2b N S v1 v2 (fun v2 => fX6_holdsOut_2 N S v1 K Q n v2) K Q
set_option maxRecDepth 100000 in
set_option maxHeartbeats 4000000 in
theorem wfX6_holdsOut_2 {x : Nx} {g : Gx} {W0 : va_W} {a : Nat → Nat} {S : RS} {N : Nat} {v1 : Int32} {K : Prop} {Q : Int32 → Prop} (C : Cx x g cX6_holdsOut RX6 wsX6_holdsOut rmX6_holdsOut yX6_holdsOut (some .boolean) 6) (hZ : Zq x g W0 (fun _ : Unit => mW g a S) (qI (fun (r : Int32) (_ : Unit) => Q r)) 0 0) (hK : K → St x 0 0 (mW g a S) [] [] 77) : ∀ (n : Nat) (v2 : Int32), fX6_holdsOut_2 N S v1 K Q n v2 → St x 0 0 (mW g a S) [(0, .ref (a 50)), (1, .int v1), (2, .int v2)] [] 2 := by
  intro n
  induction n with
  | zero => intro v2 h; exact False.elim h
  | succ n ih => intro v2 h; exact wfX6_holdsOut_2b C hZ ih hK h
def fX6_holdsOut (N : Nat) (S : RS) (v1 : Int32) (Q : Int32 → Prop) : Prop :=
  (fX6_holdsOut_2 N S v1 (Q 1) Q N 0)
set_option maxRecDepth 100000 in
set_option maxHeartbeats 4000000 in
theorem tX6_holdsOut (l : Launch) (g : Gx) (a : Nat → Nat) (S : RS) (N : Nat) (v1 : Int32) (Q : Int32 → Prop) (h : fX6_holdsOut N S v1 Q) : MetG l g yX6_holdsOut wsX6_holdsOut rmX6_holdsOut [.ref (a 50), .int v1] (mW g a S) (fun _ : Unit => mW g a S) (qI (fun (r : Int32) (_ : Unit) => Q r)) 0 0 := by
  refine met_of (cc := cX6_holdsOut) (own := RX6) (nL := 6) (ret := (some .boolean)) (lv := [(0, .ref (a 50)), (1, .int v1)]) (by decide) rfl rfl (Nat.le_of_ble_eq_true rfl) rfl ?_
  intro x C hl hZ
  subst hl
  unfold fX6_holdsOut at h
  refine r_iconst (v := 0) C dX6_holdsOut_0 (by decide) ?_
  refine r_istore_n (lv' := [(0, .ref (a 50)), (1, .int v1), (2, .int 0)]) C dX6_holdsOut_1 [some 0, some 1, none] (by decide) rfl rfl ?_
  refine wfX6_holdsOut_2 C hZ (fun h => ?_) N _ h
  refine r_iconst (v := 1) C dX6_holdsOut_77 (by decide) ?_
  exact r_zret C hZ (u := ()) (by decide) h rfl dX6_holdsOut_78
def rmX6_findSafe : Room := { frames := 2, cells := 0, slots := 0, locals := 52 }
theorem kwX6_findSafe_0 : Cond.fieldLink RX6 156 "WantsBenchModel" "positions" "I" ∈ wsX6_findSafe := by decide +kernel
theorem uwX6_findSafe_6 : ∀ w ∈ wsX60, w ∈ wsX6_findSafe := by decide +kernel
theorem kwX6_findSafe_2 : Cond.fieldLink RX6 53 "WantsBenchModel" "isSafe" "[Z" ∈ wsX6_findSafe := by decide +kernel
def fX6_findSafe_6b (N : Nat) (S : RS) (v1 : Int32) (R : Int32 → RS → Prop) (K : RS → Prop) (Q : RS → Prop) : Prop :=
  (((S.1 17) ≤ v1 → K S) ∧ (¬ (S.1 17) ≤ v1 → (vp_in v1 1024 ∧ (∀ S4 : RS, S4 = sA S 19 (upd (S.2.1 19) v1.toNatClampNeg (vp_nar .boolean 1)) → (∀ x5 : Int32, x5 = v1 + 1 → R x5 S4)))))
set_option maxRecDepth 100000 in
set_option maxHeartbeats 4000000 in
theorem wfX6_findSafe_6b {x : Nx} {g : Gx} {W0 : va_W} {a : Nat → Nat} {S : RS} {N : Nat} {v1 : Int32} {R : Int32 → RS → Prop} {K : RS → Prop} {Q : RS → Prop} (C : Cx x g cX6_findSafe RX6 wsX6_findSafe rmX6_findSafe yX6_findSafe none 3) (hZ : Zq x g W0 (fun u : RS => mW g a u) (qV (fun u : RS => Q u)) 0 0) (hR : ∀ (w1 : Int32) (S_ : RS), R w1 S_ → St x 0 0 (mW g a S_) [(0, .ref (a 50)), (1, .int w1)] [] 6) (hK : ∀ (S_ : RS), K S_ → St x 0 0 (mW g a S_) [(0, .ref (a 50))] [] 27) (h : fX6_findSafe_6b N S v1 R K Q) : St x 0 0 (mW g a S) [(0, .ref (a 50)), (1, .int v1)] [] 6 := by
  unfold fX6_findSafe_6b at h
  refine r_iload_n C dX6_findSafe_6 rfl ?_
  refine r_aload_n C dX6_findSafe_7 rfl ?_
  refine r_get (cn := RX6) (T := TX6) (N := 43) (ci := 6) C uwX6_findSafe_6 0 rfl rfl 17 (by decide) kwX6_findSafe_0 (v := .int (S.1 17)) rfl dX6_findSafe_8 ?_
  refine r_icmp_ge (tgt := 27) C dX6_findSafe_11 (by decide) (fun c2 => ?_) (fun c2 => ?_)
  · have h := h.1 c2
    refine r_sub [0] (lv' := [(0, .ref (a 50))]) rfl ?_
    exact hK S h
  · have h := h.2 c2
    refine r_aload_n C dX6_findSafe_14 rfl ?_
    refine r_get (cn := RX6) (T := TX6) (N := 43) (ci := 6) C uwX6_findSafe_6 0 rfl rfl 19 (by decide) kwX6_findSafe_2 (v := .ref (a 19)) rfl dX6_findSafe_15 ?_
    refine r_iload_n C dX6_findSafe_18 rfl ?_
    refine r_iconst (v := 1) C dX6_findSafe_19 (by decide) ?_
    obtain ⟨hi3, h⟩ := h
    obtain ⟨S4, hS4⟩ : ∃ z : RS, z = sA S 19 (upd (S.2.1 19) v1.toNatClampNeg (vp_nar .boolean 1)) := ⟨_, rfl⟩
    have h := h S4 hS4
    refine r_zast (ws' := mW g a S4) C 15 rfl hi3 dX6_findSafe_20 (by rw [hS4]; rfl) ?_
    obtain ⟨x5, ex5⟩ : ∃ z : Int32, z = v1 + 1 := ⟨_, rfl⟩
    have h := h x5 ex5
    refine r_iinc (v := x5) (lv' := [(0, .ref (a 50)), (1, .int x5)]) C dX6_findSafe_21 rfl (by rw [ex5]; rfl) [some 0, none] (by decide) rfl rfl ?_
    refine r_goto (tgt := 6) C dX6_findSafe_24 (by decide) ?_
    exact hR x5 S4 h
def fX6_findSafe_6 (N : Nat) (K : RS → Prop) (Q : RS → Prop) : Nat → Int32 → RS → Prop
  | 0, _, _ => False
  | n + 1, v1, S => fX6_findSafe_6b N S v1 (fun v1 S => fX6_findSafe_6 N K Q n v1 S) K Q
set_option maxRecDepth 100000 in
set_option maxHeartbeats 4000000 in
theorem wfX6_findSafe_6 {x : Nx} {g : Gx} {W0 : va_W} {a : Nat → Nat}  {N : Nat} {K : RS → Prop} {Q : RS → Prop} (C : Cx x g cX6_findSafe RX6 wsX6_findSafe rmX6_findSafe yX6_findSafe none 3) (hZ : Zq x g W0 (fun u : RS => mW g a u) (qV (fun u : RS => Q u)) 0 0) (hK : ∀ (S_ : RS), K S_ → St x 0 0 (mW g a S_) [(0, .ref (a 50))] [] 27) : ∀ (n : Nat) (v1 : Int32) (S : RS), fX6_findSafe_6 N K Q n v1 S → St x 0 0 (mW g a S) [(0, .ref (a 50)), (1, .int v1)] [] 6 := by
  intro n
  induction n with
  | zero => intro v1 S h; exact False.elim h
  | succ n ih => intro v1 S h; exact wfX6_findSafe_6b C hZ ih hK h
def fX6_findSafe_37b (N : Nat) (S : RS) (v1 : Int32) (v2 : Int32) (R : Int32 → Int32 → RS → Prop) (K : Int32 → RS → Prop) (Q : RS → Prop) : Prop :=
  (((S.1 17) ≤ v2 → K v1 S) ∧ (¬ (S.1 17) ≤ v2 → (vp_in v2 1024 ∧ (((S.2.1 19 v2.toNatClampNeg) = 0 → (∀ x11 : Int32, x11 = v2 + 1 → R v1 x11 S)) ∧ (¬ (S.2.1 19 v2.toNatClampNeg) = 0 → (fX6_holdsOut N S v2 (fun r12 => ((¬ r12 = 0 → (∀ x14 : Int32, x14 = v2 + 1 → R v1 x14 S)) ∧ (r12 = 0 → (vp_in v2 1024 ∧ (∀ S16 : RS, S16 = sA S 19 (upd (S.2.1 19) v2.toNatClampNeg (vp_nar .boolean 0)) → (∀ x17 : Int32, x17 = v2 + 1 → R 1 x17 S16))))))))))))
set_option maxRecDepth 100000 in
set_option maxHeartbeats 4000000 in
theorem wfX6_findSafe_37b {x : Nx} {g : Gx} {W0 : va_W} {a : Nat → Nat} {S : RS} {N : Nat} {v1 : Int32} {v2 : Int32} {R : Int32 → Int32 → RS → Prop} {K : Int32 → RS → Prop} {Q : RS → Prop} (C : Cx x g cX6_findSafe RX6 wsX6_findSafe rmX6_findSafe yX6_findSafe none 3) (hZ : Zq x g W0 (fun u : RS => mW g a u) (qV (fun u : RS => Q u)) 0 0) (hR : ∀ (w1 : Int32) (w2 : Int32) (S_ : RS), R w1 w2 S_ → St x 0 0 (mW g a S_) [(0, .ref (a 50)), (1, .int w1), (2, .int w2)] [] 37) (hK : ∀ (w1 : Int32) (S_ : RS), K w1 S_ → St x 0 0 (mW g a S_) [(0, .ref (a 50)), (1, .int w1)] [] 77) (h : fX6_findSafe_37b N S v1 v2 R K Q) : St x 0 0 (mW g a S) [(0, .ref (a 50)), (1, .int v1), (2, .int v2)] [] 37 := by
  unfold fX6_findSafe_37b at h
  refine r_iload_n C dX6_findSafe_37 rfl ?_
  refine r_aload_n C dX6_findSafe_38 rfl ?_
  refine r_get (cn := RX6) (T := TX6) (N := 43) (ci := 6) C uwX6_findSafe_6 0 rfl rfl 17 (by decide) kwX6_findSafe_0 (v := .int (S.1 17)) rfl dX6_findSafe_39 ?_
  refine r_icmp_ge (tgt := 77) C dX6_findSafe_42 (by decide) (fun c8 => ?_) (fun c8 => ?_)
  · have h := h.1 c8
    refine r_sub [0, 1] (lv' := [(0, .ref (a 50)), (1, .int v1)]) rfl ?_
    exact hK v1 S h
  · have h := h.2 c8
    refine r_aload_n C dX6_findSafe_45 rfl ?_
    refine r_get (cn := RX6) (T := TX6) (N := 43) (ci := 6) C uwX6_findSafe_6 0 rfl rfl 19 (by decide) kwX6_findSafe_2 (v := .ref (a 19)) rfl dX6_findSafe_46 ?_
    refine r_iload_n C dX6_findSafe_49 rfl ?_
    obtain ⟨hi9, h⟩ := h
    refine r_zald C 15 rfl hi9 dX6_findSafe_50 ?_
    refine r_if_eq (tgt := 71) C dX6_findSafe_51 (by decide) (fun c10 => ?_) (fun c10 => ?_)
    · have h := h.1 c10
      obtain ⟨x11, ex11⟩ : ∃ z : Int32, z = v2 + 1 := ⟨_, rfl⟩
      have h := h x11 ex11
      refine r_iinc (v := x11) (lv' := [(0, .ref (a 50)), (1, .int v1), (2, .int x11)]) C dX6_findSafe_71 rfl (by rw [ex11]; rfl) [some 0, some 1, none] (by decide) rfl rfl ?_
      refine r_goto (tgt := 37) C dX6_findSafe_74 (by decide) ?_
      exact hR v1 x11 S h
    · have h := h.2 c10
      refine r_aload_n C dX6_findSafe_54 rfl ?_
      refine r_iload_n C dX6_findSafe_55 rfl ?_
      refine callR_I C (run_V (As := [.int v2]) (rest := []) (ci := 6) C hZ.2.2 (tX6_holdsOut _ g a S N v2 _ h) gX6_findSafe_X6_holdsOut rfl dsX6_holdsOut rfl rfl ⟨(Nat.le_of_ble_eq_true rfl), (Nat.le_of_ble_eq_true rfl)⟩ rfl (List.mem_of_getElem? (i := 0) rfl) rfl (Nat.le_of_ble_eq_true rfl) dX6_findSafe_56 ⟨Nat.zero_le _, Nat.zero_le _⟩) (List.Sublist.refl _) (fun _ => rfl) (fun r12 _ h => ?_)
      refine r_if_ne (tgt := 71) C dX6_findSafe_59 (by decide) (fun c13 => ?_) (fun c13 => ?_)
      · have h := h.1 c13
        obtain ⟨x14, ex14⟩ : ∃ z : Int32, z = v2 + 1 := ⟨_, rfl⟩
        have h := h x14 ex14
        refine r_iinc (v := x14) (lv' := [(0, .ref (a 50)), (1, .int v1), (2, .int x14)]) C dX6_findSafe_71 rfl (by rw [ex14]; rfl) [some 0, some 1, none] (by decide) rfl rfl ?_
        refine r_goto (tgt := 37) C dX6_findSafe_74 (by decide) ?_
        exact hR v1 x14 S h
      · have h := h.2 c13
        refine r_aload_n C dX6_findSafe_62 rfl ?_
        refine r_get (cn := RX6) (T := TX6) (N := 43) (ci := 6) C uwX6_findSafe_6 0 rfl rfl 19 (by decide) kwX6_findSafe_2 (v := .ref (a 19)) rfl dX6_findSafe_63 ?_
        refine r_iload_n C dX6_findSafe_66 rfl ?_
        refine r_iconst (v := 0) C dX6_findSafe_67 (by decide) ?_
        obtain ⟨hi15, h⟩ := h
        obtain ⟨S16, hS16⟩ : ∃ z : RS, z = sA S 19 (upd (S.2.1 19) v2.toNatClampNeg (vp_nar .boolean 0)) := ⟨_, rfl⟩
        have h := h S16 hS16
        refine r_zast (ws' := mW g a S16) C 15 rfl hi15 dX6_findSafe_68 (by rw [hS16]; rfl) ?_
        refine r_iconst (v := 1) C dX6_findSafe_69 (by decide) ?_
        refine r_istore_n (lv' := [(0, .ref (a 50)), (1, .int 1), (2, .int v2)]) C dX6_findSafe_70 [some 0, none, some 2] (by decide) rfl rfl ?_
        obtain ⟨x17, ex17⟩ : ∃ z : Int32, z = v2 + 1 := ⟨_, rfl⟩
        have h := h x17 ex17
        refine r_iinc (v := x17) (lv' := [(0, .ref (a 50)), (1, .int 1), (2, .int x17)]) C dX6_findSafe_71 rfl (by rw [ex17]; rfl) [some 0, some 1, none] (by decide) rfl rfl ?_
        refine r_goto (tgt := 37) C dX6_findSafe_74 (by decide) ?_
        exact hR 1 x17 S16 h
def fX6_findSafe_37 (N : Nat) (K : Int32 → RS → Prop) (Q : RS → Prop) : Nat → Int32 → Int32 → RS → Prop
  | 0, _, _, _ => False
  | n + 1, v1, v2, S => fX6_findSafe_37b N S v1 v2 (fun v1 v2 S => fX6_findSafe_37 N K Q n v1 v2 S) K Q
set_option maxRecDepth 100000 in
set_option maxHeartbeats 4000000 in
theorem wfX6_findSafe_37 {x : Nx} {g : Gx} {W0 : va_W} {a : Nat → Nat}  {N : Nat} {K : Int32 → RS → Prop} {Q : RS → Prop} (C : Cx x g cX6_findSafe RX6 wsX6_findSafe rmX6_findSafe yX6_findSafe none 3) (hZ : Zq x g W0 (fun u : RS => mW g a u) (qV (fun u : RS => Q u)) 0 0) (hK : ∀ (w1 : Int32) (S_ : RS), K w1 S_ → St x 0 0 (mW g a S_) [(0, .ref (a 50)), (1, .int w1)] [] 77) : ∀ (n : Nat) (v1 : Int32) (v2 : Int32) (S : RS), fX6_findSafe_37 N K Q n v1 v2 S → St x 0 0 (mW g a S) [(0, .ref (a 50)), (1, .int v1), (2, .int v2)] [] 37 := by
  intro n
  induction n with
  | zero => intro v1 v2 S h; exact False.elim h
  | succ n ih => intro v1 v2 S h; exact wfX6_findSafe_37b C hZ ih hK h
def fX6_findSafe_29b (N : Nat) (S : RS) (v1 : Int32) (R : Int32 → RS → Prop) (K : RS → Prop) (Q : RS → Prop) : Prop :=
  ((v1 = 0 → K S) ∧ (¬ v1 = 0 → (fX6_findSafe_37 N (fun x18 S19 => R x18 S19) Q N 0 0 S)))
set_option maxRecDepth 100000 in
set_option maxHeartbeats 4000000 in
theorem wfX6_findSafe_29b {x : Nx} {g : Gx} {W0 : va_W} {a : Nat → Nat} {S : RS} {N : Nat} {v1 : Int32} {R : Int32 → RS → Prop} {K : RS → Prop} {Q : RS → Prop} (C : Cx x g cX6_findSafe RX6 wsX6_findSafe rmX6_findSafe yX6_findSafe none 3) (hZ : Zq x g W0 (fun u : RS => mW g a u) (qV (fun u : RS => Q u)) 0 0) (hR : ∀ (w1 : Int32) (S_ : RS), R w1 S_ → St x 0 0 (mW g a S_) [(0, .ref (a 50)), (1, .int w1)] [] 29) (hK : ∀ (S_ : RS), K S_ → St x 0 0 (mW g a S_) [] [] 80) (h : fX6_findSafe_29b N S v1 R K Q) : St x 0 0 (mW g a S) [(0, .ref (a 50)), (1, .int v1)] [] 29 := by
  unfold fX6_findSafe_29b at h
  refine r_iload_n C dX6_findSafe_29 rfl ?_
  refine r_if_eq (tgt := 80) C dX6_findSafe_30 (by decide) (fun c7 => ?_) (fun c7 => ?_)
  · have h := h.1 c7
    refine r_sub [] (lv' := []) rfl ?_
    exact hK S h
  · have h := h.2 c7
    refine r_iconst (v := 0) C dX6_findSafe_33 (by decide) ?_
    refine r_istore_n (lv' := [(0, .ref (a 50)), (1, .int 0)]) C dX6_findSafe_34 [some 0, none] (by decide) rfl rfl ?_
    refine r_iconst (v := 0) C dX6_findSafe_35 (by decide) ?_
    refine r_istore_n (lv' := [(0, .ref (a 50)), (1, .int 0), (2, .int 0)]) C dX6_findSafe_36 [some 0, some 1, none] (by decide) rfl rfl ?_
    refine wfX6_findSafe_37 C hZ (fun x18 S19 h => ?_) N _ _ _ h
    refine r_goto (tgt := 29) C dX6_findSafe_77 (by decide) ?_
    exact hR x18 S19 h
def fX6_findSafe_29 (N : Nat) (K : RS → Prop) (Q : RS → Prop) : Nat → Int32 → RS → Prop
  | 0, _, _ => False
  | n + 1, v1, S => fX6_findSafe_29b N S v1 (fun v1 S => fX6_findSafe_29 N K Q n v1 S) K Q
set_option maxRecDepth 100000 in
set_option maxHeartbeats 4000000 in
theorem wfX6_findSafe_29 {x : Nx} {g : Gx} {W0 : va_W} {a : Nat → Nat}  {N : Nat} {K : RS → Prop} {Q : RS → Prop} (C : Cx x g cX6_findSafe RX6 wsX6_findSafe rmX6_findSafe yX6_findSafe none 3) (hZ : Zq x g W0 (fun u : RS => mW g a u) (qV (fun u : RS => Q u)) 0 0) (hK : ∀ (S_ : RS), K S_ → St x 0 0 (mW g a S_) [] [] 80) : ∀ (n : Nat) (v1 : Int32) (S : RS), fX6_findSafe_29 N K Q n v1 S → St x 0 0 (mW g a S) [(0, .ref (a 50)), (1, .int v1)] [] 29 := by
  intro n
  induction n with
  | zero => intro v1 S h; exact False.elim h
  | succ n ih => intro v1 S h; exact wfX6_findSafe_29b C hZ ih hK h
def fX6_findSafe (N : Nat) (S : RS) (Q : RS → Prop) : Prop :=
  (fX6_findSteps N S (fun  S1 => (fX6_findSafe_6 N (fun S6 => (fX6_findSafe_29 N (fun S20 => Q S20) Q N 1 S6)) Q N 0 S1)))
set_option maxRecDepth 100000 in
set_option maxHeartbeats 4000000 in
theorem tX6_findSafe (l : Launch) (g : Gx) (a : Nat → Nat) (S : RS) (N : Nat) (Q : RS → Prop) (h : fX6_findSafe N S Q) : MetG l g yX6_findSafe wsX6_findSafe rmX6_findSafe [.ref (a 50)] (mW g a S) (fun u : RS => mW g a u) (qV (fun u : RS => Q u)) 0 0 := by
  refine met_of (cc := cX6_findSafe) (own := RX6) (nL := 3) (ret := none) (lv := [(0, .ref (a 50))]) (by decide) rfl rfl (Nat.le_of_ble_eq_true rfl) rfl ?_
  intro x C hl hZ
  subst hl
  unfold fX6_findSafe at h
  refine r_aload_n C dX6_findSafe_0 rfl ?_
  refine callW_V C (run_V (As := []) (rest := []) (ci := 6) C hZ.2.2 (tX6_findSteps _ g a S N _ h) gX6_findSafe_X6_findSteps rfl dsX6_findSteps rfl rfl ⟨(Nat.le_of_ble_eq_true rfl), (Nat.le_of_ble_eq_true rfl)⟩ rfl (List.mem_of_getElem? (i := 0) rfl) rfl (Nat.le_of_ble_eq_true rfl) dX6_findSafe_1 ⟨Nat.zero_le _, Nat.zero_le _⟩) (fun S1 h => ?_)
  show St x 0 0 (mW g a S1) _ _ 4
  refine r_iconst (v := 0) C dX6_findSafe_4 (by decide) ?_
  refine r_istore_n (lv' := [(0, .ref (a 50)), (1, .int 0)]) C dX6_findSafe_5 [some 0, none] (by decide) rfl rfl ?_
  refine wfX6_findSafe_6 C hZ (fun S6 h => ?_) N _ _ h
  refine r_iconst (v := 1) C dX6_findSafe_27 (by decide) ?_
  refine r_istore_n (lv' := [(0, .ref (a 50)), (1, .int 1)]) C dX6_findSafe_28 [some 0, none] (by decide) rfl rfl ?_
  refine wfX6_findSafe_29 C hZ (fun S20 h => ?_) N _ _ h
  exact r_vret C hZ (u := S20) h rfl dX6_findSafe_80
def rmX6_can : Room := { frames := 3, cells := 0, slots := 0, locals := 74 }
theorem kwX6_can_0 : Cond.fieldLink RX6 53 "WantsBenchModel" "isSafe" "[Z" ∈ wsX6_can := by decide +kernel
theorem uwX6_can_6 : ∀ w ∈ wsX60, w ∈ wsX6_can := by decide +kernel
def fX6_can (N : Nat) (S : RS) (v1 : Int32) (Q : Int32 → RS → Prop) : Prop :=
  (fX6_isSet N S v1 5 (fun r1 => ((¬ r1 = 0 → (fX6_takeSet N S v1 (fun  S3 => (fX6_findSafe N S3 (fun  S4 => (vp_in 0 1024 ∧ (((S4.2.1 19 (0 : Int32).toNatClampNeg) = 0 → Q 0 S4) ∧ (¬ (S4.2.1 19 (0 : Int32).toNatClampNeg) = 0 → Q 1 S4)))))))) ∧ (r1 = 0 → Q (-1) S))))
set_option maxRecDepth 100000 in
set_option maxHeartbeats 4000000 in
theorem tX6_can (l : Launch) (g : Gx) (a : Nat → Nat) (S : RS) (N : Nat) (v1 : Int32) (Q : Int32 → RS → Prop) (h : fX6_can N S v1 Q) : MetG l g yX6_can wsX6_can rmX6_can [.ref (a 50), .int v1] (mW g a S) (fun u : RS => mW g a u) (qI (fun (r : Int32) (u : RS) => Q r u)) 0 0 := by
  refine met_of (cc := cX6_can) (own := RX6) (nL := 2) (ret := (some .int)) (lv := [(0, .ref (a 50)), (1, .int v1)]) (by decide) rfl rfl (Nat.le_of_ble_eq_true rfl) rfl ?_
  intro x C hl hZ
  subst hl
  unfold fX6_can at h
  refine r_aload_n C dX6_can_0 rfl ?_
  refine r_iload_n C dX6_can_1 rfl ?_
  refine r_iconst (v := 5) C dX6_can_2 (by decide) ?_
  refine callR_I C (run_V (As := [.int v1, .int 5]) (rest := []) (ci := 6) C hZ.2.2 (tX6_isSet _ g a S N v1 5 _ h) gX6_can_X6_isSet rfl dsX6_isSet rfl rfl ⟨(Nat.le_of_ble_eq_true rfl), (Nat.le_of_ble_eq_true rfl)⟩ rfl (List.mem_of_getElem? (i := 0) rfl) rfl (Nat.le_of_ble_eq_true rfl) dX6_can_3 ⟨Nat.zero_le _, Nat.zero_le _⟩) (List.Sublist.refl _) (fun _ => rfl) (fun r1 _ h => ?_)
  refine r_if_ne (tgt := 11) C dX6_can_6 (by decide) (fun c2 => ?_) (fun c2 => ?_)
  · have h := h.1 c2
    refine r_aload_n C dX6_can_11 rfl ?_
    refine r_iload_n C dX6_can_12 rfl ?_
    refine callW_V C (run_V (As := [.int v1]) (rest := []) (ci := 6) C hZ.2.2 (tX6_takeSet _ g a S N v1 _ h) gX6_can_X6_takeSet rfl dsX6_takeSet rfl rfl ⟨(Nat.le_of_ble_eq_true rfl), (Nat.le_of_ble_eq_true rfl)⟩ rfl (List.mem_of_getElem? (i := 0) rfl) rfl (Nat.le_of_ble_eq_true rfl) dX6_can_13 ⟨Nat.zero_le _, Nat.zero_le _⟩) (fun S3 h => ?_)
    show St x 0 0 (mW g a S3) _ _ 16
    refine r_aload_n C dX6_can_16 rfl ?_
    refine callW_V C (run_V (As := []) (rest := []) (ci := 6) C hZ.2.2 (tX6_findSafe _ g a S3 N _ h) gX6_can_X6_findSafe rfl dsX6_findSafe rfl rfl ⟨(Nat.le_of_ble_eq_true rfl), (Nat.le_of_ble_eq_true rfl)⟩ rfl (List.mem_of_getElem? (i := 0) rfl) rfl (Nat.le_of_ble_eq_true rfl) dX6_can_17 ⟨Nat.zero_le _, Nat.zero_le _⟩) (fun S4 h => ?_)
    show St x 0 0 (mW g a S4) _ _ 20
    refine r_aload_n C dX6_can_20 rfl ?_
    refine r_get (cn := RX6) (T := TX6) (N := 43) (ci := 6) C uwX6_can_6 0 rfl rfl 19 (by decide) kwX6_can_0 (v := .ref (a 19)) rfl dX6_can_21 ?_
    refine r_iconst (v := 0) C dX6_can_24 (by decide) ?_
    obtain ⟨hi5, h⟩ := h
    refine r_zald C 15 rfl hi5 dX6_can_25 ?_
    refine r_if_eq (tgt := 33) C dX6_can_26 (by decide) (fun c6 => ?_) (fun c6 => ?_)
    · have h := h.1 c6
      refine r_iconst (v := 0) C dX6_can_33 (by decide) ?_
      exact r_iret C hZ (u := S4) h rfl dX6_can_34
    · have h := h.2 c6
      refine r_iconst (v := 1) C dX6_can_29 (by decide) ?_
      refine r_goto (tgt := 34) C dX6_can_30 (by decide) ?_
      exact r_iret C hZ (u := S4) h rfl dX6_can_34
  · have h := h.2 c2
    refine r_iconst (v := (-1)) C dX6_can_9 (by decide) ?_
    exact r_iret C hZ (u := S) h rfl dX6_can_10
def rmX6_safe : Room := { frames := 3, cells := 0, slots := 0, locals := 74 }
theorem kwX6_safe_0 : Cond.fieldLink RX6 156 "WantsBenchModel" "positions" "I" ∈ wsX6_safe := by decide +kernel
theorem uwX6_safe_6 : ∀ w ∈ wsX60, w ∈ wsX6_safe := by decide +kernel
theorem kwX6_safe_2 : Cond.fieldLink RX6 53 "WantsBenchModel" "isSafe" "[Z" ∈ wsX6_safe := by decide +kernel
def fX6_safe_24b (N : Nat) (S : RS) (v2 : Int32) (v3 : Int32) (R : Int32 → Int32 → Prop) (K : Int32 → Prop) (Q : Int32 → RS → Prop) : Prop :=
  (((S.1 17) ≤ v3 → K v2) ∧ (¬ (S.1 17) ≤ v3 → (vp_in v3 1024 ∧ (((S.2.1 19 v3.toNatClampNeg) = 0 → (∀ x8 : Int32, x8 = v2 + (0 : Int32) → (∀ x9 : Int32, x9 = v3 + 1 → R x8 x9))) ∧ (¬ (S.2.1 19 v3.toNatClampNeg) = 0 → (∀ x10 : Int32, x10 = v2 + (1 : Int32) → (∀ x11 : Int32, x11 = v3 + 1 → R x10 x11)))))))
set_option maxRecDepth 100000 in
set_option maxHeartbeats 4000000 in
theorem wfX6_safe_24b {x : Nx} {g : Gx} {W0 : va_W} {a : Nat → Nat} {S : RS} {N : Nat} {v2 : Int32} {v3 : Int32} {R : Int32 → Int32 → Prop} {K : Int32 → Prop} {Q : Int32 → RS → Prop} (C : Cx x g cX6_safe RX6 wsX6_safe rmX6_safe yX6_safe (some .int) 4) (hZ : Zq x g W0 (fun u : RS => mW g a u) (qI (fun (r : Int32) (u : RS) => Q r u)) 0 0) (hR : ∀ (w2 : Int32) (w3 : Int32), R w2 w3 → St x 0 0 (mW g a S) [(0, .ref (a 50)), (2, .int w2), (3, .int w3)] [] 24) (hK : ∀ (w2 : Int32), K w2 → St x 0 0 (mW g a S) [(2, .int w2)] [] 55) (h : fX6_safe_24b N S v2 v3 R K Q) : St x 0 0 (mW g a S) [(0, .ref (a 50)), (2, .int v2), (3, .int v3)] [] 24 := by
  unfold fX6_safe_24b at h
  refine r_iload_n C dX6_safe_24 rfl ?_
  refine r_aload_n C dX6_safe_25 rfl ?_
  refine r_get (cn := RX6) (T := TX6) (N := 43) (ci := 6) C uwX6_safe_6 0 rfl rfl 17 (by decide) kwX6_safe_0 (v := .int (S.1 17)) rfl dX6_safe_26 ?_
  refine r_icmp_ge (tgt := 55) C dX6_safe_29 (by decide) (fun c5 => ?_) (fun c5 => ?_)
  · have h := h.1 c5
    refine r_sub [1] (lv' := [(2, .int v2)]) rfl ?_
    exact hK v2 h
  · have h := h.2 c5
    refine r_iload_n C dX6_safe_32 rfl ?_
    refine r_aload_n C dX6_safe_33 rfl ?_
    refine r_get (cn := RX6) (T := TX6) (N := 43) (ci := 6) C uwX6_safe_6 0 rfl rfl 19 (by decide) kwX6_safe_2 (v := .ref (a 19)) rfl dX6_safe_34 ?_
    refine r_iload_n C dX6_safe_37 rfl ?_
    obtain ⟨hi6, h⟩ := h
    refine r_zald C 15 rfl hi6 dX6_safe_38 ?_
    refine r_if_eq (tgt := 46) C dX6_safe_39 (by decide) (fun c7 => ?_) (fun c7 => ?_)
    · have h := h.1 c7
      refine r_iconst (v := 0) C dX6_safe_46 (by decide) ?_
      refine r_iadd C dX6_safe_47 ?_
      refine r_topi (fun x8 ex8 => ?_)
      have h := h x8 ex8
      refine r_istore_n (lv' := [(0, .ref (a 50)), (2, .int x8), (3, .int v3)]) C dX6_safe_48 [some 0, none, some 2] (by decide) rfl rfl ?_
      obtain ⟨x9, ex9⟩ : ∃ z : Int32, z = v3 + 1 := ⟨_, rfl⟩
      have h := h x9 ex9
      refine r_iinc (v := x9) (lv' := [(0, .ref (a 50)), (2, .int x8), (3, .int x9)]) C dX6_safe_49 rfl (by rw [ex9]; rfl) [some 0, some 1, none] (by decide) rfl rfl ?_
      refine r_goto (tgt := 24) C dX6_safe_52 (by decide) ?_
      exact hR x8 x9 h
    · have h := h.2 c7
      refine r_iconst (v := 1) C dX6_safe_42 (by decide) ?_
      refine r_goto (tgt := 47) C dX6_safe_43 (by decide) ?_
      refine r_iadd C dX6_safe_47 ?_
      refine r_topi (fun x10 ex10 => ?_)
      have h := h x10 ex10
      refine r_istore_n (lv' := [(0, .ref (a 50)), (2, .int x10), (3, .int v3)]) C dX6_safe_48 [some 0, none, some 2] (by decide) rfl rfl ?_
      obtain ⟨x11, ex11⟩ : ∃ z : Int32, z = v3 + 1 := ⟨_, rfl⟩
      have h := h x11 ex11
      refine r_iinc (v := x11) (lv' := [(0, .ref (a 50)), (2, .int x10), (3, .int x11)]) C dX6_safe_49 rfl (by rw [ex11]; rfl) [some 0, some 1, none] (by decide) rfl rfl ?_
      refine r_goto (tgt := 24) C dX6_safe_52 (by decide) ?_
      exact hR x10 x11 h
def fX6_safe_24 (N : Nat) (S : RS) (K : Int32 → Prop) (Q : Int32 → RS → Prop) : Nat → Int32 → Int32 → Prop
  | 0, _, _ => False
  | n + 1, v2, v3 => fX6_safe_24b N S v2 v3 (fun v2 v3 => fX6_safe_24 N S K Q n v2 v3) K Q
set_option maxRecDepth 100000 in
set_option maxHeartbeats 4000000 in
theorem wfX6_safe_24 {x : Nx} {g : Gx} {W0 : va_W} {a : Nat → Nat} {S : RS} {N : Nat} {K : Int32 → Prop} {Q : Int32 → RS → Prop} (C : Cx x g cX6_safe RX6 wsX6_safe rmX6_safe yX6_safe (some .int) 4) (hZ : Zq x g W0 (fun u : RS => mW g a u) (qI (fun (r : Int32) (u : RS) => Q r u)) 0 0) (hK : ∀ (w2 : Int32), K w2 → St x 0 0 (mW g a S) [(2, .int w2)] [] 55) : ∀ (n : Nat) (v2 : Int32) (v3 : Int32), fX6_safe_24 N S K Q n v2 v3 → St x 0 0 (mW g a S) [(0, .ref (a 50)), (2, .int v2), (3, .int v3)] [] 24 := by
  intro n
  induction n with
  | zero => intro v2 v3 h; exact False.elim h
  | succ n ih => intro v2 v3 h; exact wfX6_safe_24b C hZ ih hK h
def fX6_safe (N : Nat) (S : RS) (v1 : Int32) (Q : Int32 → RS → Prop) : Prop :=
  (fX6_isSet N S v1 5 (fun r1 => ((¬ r1 = 0 → (fX6_takeSet N S v1 (fun  S3 => (fX6_findSafe N S3 (fun  S4 => (fX6_safe_24 N S4 (fun x12 => Q x12 S4) Q N 0 0)))))) ∧ (r1 = 0 → Q (-1) S))))
set_option maxRecDepth 100000 in
set_option maxHeartbeats 4000000 in
theorem tX6_safe (l : Launch) (g : Gx) (a : Nat → Nat) (S : RS) (N : Nat) (v1 : Int32) (Q : Int32 → RS → Prop) (h : fX6_safe N S v1 Q) : MetG l g yX6_safe wsX6_safe rmX6_safe [.ref (a 50), .int v1] (mW g a S) (fun u : RS => mW g a u) (qI (fun (r : Int32) (u : RS) => Q r u)) 0 0 := by
  refine met_of (cc := cX6_safe) (own := RX6) (nL := 4) (ret := (some .int)) (lv := [(0, .ref (a 50)), (1, .int v1)]) (by decide) rfl rfl (Nat.le_of_ble_eq_true rfl) rfl ?_
  intro x C hl hZ
  subst hl
  unfold fX6_safe at h
  refine r_aload_n C dX6_safe_0 rfl ?_
  refine r_iload_n C dX6_safe_1 rfl ?_
  refine r_iconst (v := 5) C dX6_safe_2 (by decide) ?_
  refine callR_I C (run_V (As := [.int v1, .int 5]) (rest := []) (ci := 6) C hZ.2.2 (tX6_isSet _ g a S N v1 5 _ h) gX6_safe_X6_isSet rfl dsX6_isSet rfl rfl ⟨(Nat.le_of_ble_eq_true rfl), (Nat.le_of_ble_eq_true rfl)⟩ rfl (List.mem_of_getElem? (i := 0) rfl) rfl (Nat.le_of_ble_eq_true rfl) dX6_safe_3 ⟨Nat.zero_le _, Nat.zero_le _⟩) (List.Sublist.refl _) (fun _ => rfl) (fun r1 _ h => ?_)
  refine r_if_ne (tgt := 11) C dX6_safe_6 (by decide) (fun c2 => ?_) (fun c2 => ?_)
  · have h := h.1 c2
    refine r_aload_n C dX6_safe_11 rfl ?_
    refine r_iload_n C dX6_safe_12 rfl ?_
    refine callW_V C (run_V (As := [.int v1]) (rest := []) (ci := 6) C hZ.2.2 (tX6_takeSet _ g a S N v1 _ h) gX6_safe_X6_takeSet rfl dsX6_takeSet rfl rfl ⟨(Nat.le_of_ble_eq_true rfl), (Nat.le_of_ble_eq_true rfl)⟩ rfl (List.mem_of_getElem? (i := 0) rfl) rfl (Nat.le_of_ble_eq_true rfl) dX6_safe_13 ⟨Nat.zero_le _, Nat.zero_le _⟩) (fun S3 h => ?_)
    show St x 0 0 (mW g a S3) _ _ 16
    refine r_aload_n C dX6_safe_16 rfl ?_
    refine callW_V C (run_V (As := []) (rest := []) (ci := 6) C hZ.2.2 (tX6_findSafe _ g a S3 N _ h) gX6_safe_X6_findSafe rfl dsX6_findSafe rfl rfl ⟨(Nat.le_of_ble_eq_true rfl), (Nat.le_of_ble_eq_true rfl)⟩ rfl (List.mem_of_getElem? (i := 0) rfl) rfl (Nat.le_of_ble_eq_true rfl) dX6_safe_17 ⟨Nat.zero_le _, Nat.zero_le _⟩) (fun S4 h => ?_)
    show St x 0 0 (mW g a S4) _ _ 20
    refine r_iconst (v := 0) C dX6_safe_20 (by decide) ?_
    refine r_istore_n (lv' := [(0, .ref (a 50)), (2, .int 0)]) C dX6_safe_21 [some 0, none] (by decide) rfl rfl ?_
    refine r_iconst (v := 0) C dX6_safe_22 (by decide) ?_
    refine r_istore_n (lv' := [(0, .ref (a 50)), (2, .int 0), (3, .int 0)]) C dX6_safe_23 [some 0, some 1, none] (by decide) rfl rfl ?_
    refine wfX6_safe_24 C hZ (fun x12 h => ?_) N _ _ h
    refine r_iload_n C dX6_safe_55 rfl ?_
    exact r_iret C hZ (u := S4) h rfl dX6_safe_56
  · have h := h.2 c2
    refine r_iconst (v := (-1)) C dX6_safe_9 (by decide) ?_
    exact r_iret C hZ (u := S) h rfl dX6_safe_10
def rmX6_takePlay : Room := { frames := 3, cells := 0, slots := 0, locals := 74 }
theorem kwX6_takePlay_0 : Cond.fieldLink RX6 180 "WantsBenchModel" "playSet" "I" ∈ wsX6_takePlay := by decide +kernel
theorem uwX6_takePlay_6 : ∀ w ∈ wsX60, w ∈ wsX6_takePlay := by decide +kernel
def fX6_takePlay (N : Nat) (S : RS) (Q : RS → Prop) : Prop :=
  (fX6_takeSet N S (S.1 22) (fun  S1 => (fX6_findSafe N S1 (fun  S2 => Q S2))))
set_option maxRecDepth 100000 in
set_option maxHeartbeats 4000000 in
theorem tX6_takePlay (l : Launch) (g : Gx) (a : Nat → Nat) (S : RS) (N : Nat) (Q : RS → Prop) (h : fX6_takePlay N S Q) : MetG l g yX6_takePlay wsX6_takePlay rmX6_takePlay [.ref (a 50)] (mW g a S) (fun u : RS => mW g a u) (qV (fun u : RS => Q u)) 0 0 := by
  refine met_of (cc := cX6_takePlay) (own := RX6) (nL := 1) (ret := none) (lv := [(0, .ref (a 50))]) (by decide) rfl rfl (Nat.le_of_ble_eq_true rfl) rfl ?_
  intro x C hl hZ
  subst hl
  unfold fX6_takePlay at h
  refine r_aload_n C dX6_takePlay_0 rfl ?_
  refine r_aload_n C dX6_takePlay_1 rfl ?_
  refine r_get (cn := RX6) (T := TX6) (N := 43) (ci := 6) C uwX6_takePlay_6 0 rfl rfl 22 (by decide) kwX6_takePlay_0 (v := .int (S.1 22)) rfl dX6_takePlay_2 ?_
  refine callW_V C (run_V (As := [.int (S.1 22)]) (rest := []) (ci := 6) C hZ.2.2 (tX6_takeSet _ g a S N (S.1 22) _ h) gX6_takePlay_X6_takeSet rfl dsX6_takeSet rfl rfl ⟨(Nat.le_of_ble_eq_true rfl), (Nat.le_of_ble_eq_true rfl)⟩ rfl (List.mem_of_getElem? (i := 0) rfl) rfl (Nat.le_of_ble_eq_true rfl) dX6_takePlay_5 ⟨Nat.zero_le _, Nat.zero_le _⟩) (fun S1 h => ?_)
  show St x 0 0 (mW g a S1) _ _ 8
  refine r_aload_n C dX6_takePlay_8 rfl ?_
  refine callW_V C (run_V (As := []) (rest := []) (ci := 6) C hZ.2.2 (tX6_findSafe _ g a S1 N _ h) gX6_takePlay_X6_findSafe rfl dsX6_findSafe rfl rfl ⟨(Nat.le_of_ble_eq_true rfl), (Nat.le_of_ble_eq_true rfl)⟩ rfl (List.mem_of_getElem? (i := 0) rfl) rfl (Nat.le_of_ble_eq_true rfl) dX6_takePlay_9 ⟨Nat.zero_le _, Nat.zero_le _⟩) (fun S2 h => ?_)
  show St x 0 0 (mW g a S2) _ _ 12
  exact r_vret C hZ (u := S2) h rfl dX6_takePlay_12
def rmX6_play : Room := { frames := 4, cells := 0, slots := 0, locals := 94 }
theorem kwX6_play_0 : Cond.fieldLink RX6 183 "WantsBenchModel" "isPlay" "Z" ∈ wsX6_play := by decide +kernel
theorem uwX6_play_6 : ∀ w ∈ wsX60, w ∈ wsX6_play := by decide +kernel
theorem kwX6_play_2 : Cond.fieldLink RX6 180 "WantsBenchModel" "playSet" "I" ∈ wsX6_play := by decide +kernel
theorem kwX6_play_3 : Cond.fieldLink RX6 187 "WantsBenchModel" "playAt" "I" ∈ wsX6_play := by decide +kernel
theorem kwX6_play_4 : Cond.fieldLink RX6 53 "WantsBenchModel" "isSafe" "[Z" ∈ wsX6_play := by decide +kernel
def fX6_play (N : Nat) (S : RS) (v1 : Int32) (Q : Int32 → RS → Prop) : Prop :=
  (fX6_isSet N S v1 5 (fun r1 => ((¬ r1 = 0 → (∀ S3 : RS, S3 = sI S 21 1 → (∀ S4 : RS, S4 = sI S3 22 v1 → (∀ S5 : RS, S5 = sI S4 23 0 → (fX6_takePlay N S5 (fun  S6 => (vp_in 0 1024 ∧ (((S6.2.1 19 (0 : Int32).toNatClampNeg) = 0 → Q 0 S6) ∧ (¬ (S6.2.1 19 (0 : Int32).toNatClampNeg) = 0 → Q 1 S6))))))))) ∧ (r1 = 0 → Q (-1) S))))
set_option maxRecDepth 100000 in
set_option maxHeartbeats 4000000 in
theorem tX6_play (l : Launch) (g : Gx) (a : Nat → Nat) (S : RS) (N : Nat) (v1 : Int32) (Q : Int32 → RS → Prop) (h : fX6_play N S v1 Q) : MetG l g yX6_play wsX6_play rmX6_play [.ref (a 50), .int v1] (mW g a S) (fun u : RS => mW g a u) (qI (fun (r : Int32) (u : RS) => Q r u)) 0 0 := by
  refine met_of (cc := cX6_play) (own := RX6) (nL := 2) (ret := (some .int)) (lv := [(0, .ref (a 50)), (1, .int v1)]) (by decide) rfl rfl (Nat.le_of_ble_eq_true rfl) rfl ?_
  intro x C hl hZ
  subst hl
  unfold fX6_play at h
  refine r_aload_n C dX6_play_0 rfl ?_
  refine r_iload_n C dX6_play_1 rfl ?_
  refine r_iconst (v := 5) C dX6_play_2 (by decide) ?_
  refine callR_I C (run_V (As := [.int v1, .int 5]) (rest := []) (ci := 6) C hZ.2.2 (tX6_isSet _ g a S N v1 5 _ h) gX6_play_X6_isSet rfl dsX6_isSet rfl rfl ⟨(Nat.le_of_ble_eq_true rfl), (Nat.le_of_ble_eq_true rfl)⟩ rfl (List.mem_of_getElem? (i := 0) rfl) rfl (Nat.le_of_ble_eq_true rfl) dX6_play_3 ⟨Nat.zero_le _, Nat.zero_le _⟩) (List.Sublist.refl _) (fun _ => rfl) (fun r1 _ h => ?_)
  refine r_if_ne (tgt := 11) C dX6_play_6 (by decide) (fun c2 => ?_) (fun c2 => ?_)
  · have h := h.1 c2
    refine r_aload_n C dX6_play_11 rfl ?_
    refine r_iconst (v := 1) C dX6_play_12 (by decide) ?_
    obtain ⟨S3, hS3⟩ : ∃ z : RS, z = sI S 21 1 := ⟨_, rfl⟩
    have h := h S3 hS3
    refine r_put (cn := RX6) (T := TX6) (N := 43) (ci := 6) (ws' := mW g a S3) C uwX6_play_6 tyX6 tyX6_ok nmX6 0 rfl rfl 21 (by decide) kwX6_play_0 rfl rfl rfl (Nat.le_of_ble_eq_true rfl) dX6_play_13 (by rw [hS3]; rfl) ?_
    refine r_aload_n C dX6_play_16 rfl ?_
    refine r_iload_n C dX6_play_17 rfl ?_
    obtain ⟨S4, hS4⟩ : ∃ z : RS, z = sI S3 22 v1 := ⟨_, rfl⟩
    have h := h S4 hS4
    refine r_put (cn := RX6) (T := TX6) (N := 43) (ci := 6) (ws' := mW g a S4) C uwX6_play_6 tyX6 tyX6_ok nmX6 0 rfl rfl 22 (by decide) kwX6_play_2 rfl rfl rfl (Nat.le_of_ble_eq_true rfl) dX6_play_18 (by rw [hS4]; rfl) ?_
    refine r_aload_n C dX6_play_21 rfl ?_
    refine r_iconst (v := 0) C dX6_play_22 (by decide) ?_
    obtain ⟨S5, hS5⟩ : ∃ z : RS, z = sI S4 23 0 := ⟨_, rfl⟩
    have h := h S5 hS5
    refine r_put (cn := RX6) (T := TX6) (N := 43) (ci := 6) (ws' := mW g a S5) C uwX6_play_6 tyX6 tyX6_ok nmX6 0 rfl rfl 23 (by decide) kwX6_play_3 rfl rfl rfl (Nat.le_of_ble_eq_true rfl) dX6_play_23 (by rw [hS5]; rfl) ?_
    refine r_aload_n C dX6_play_26 rfl ?_
    refine callW_V C (run_V (As := []) (rest := []) (ci := 6) C hZ.2.2 (tX6_takePlay _ g a S5 N _ h) gX6_play_X6_takePlay rfl dsX6_takePlay rfl rfl ⟨(Nat.le_of_ble_eq_true rfl), (Nat.le_of_ble_eq_true rfl)⟩ rfl (List.mem_of_getElem? (i := 0) rfl) rfl (Nat.le_of_ble_eq_true rfl) dX6_play_27 ⟨Nat.zero_le _, Nat.zero_le _⟩) (fun S6 h => ?_)
    show St x 0 0 (mW g a S6) _ _ 30
    refine r_aload_n C dX6_play_30 rfl ?_
    refine r_get (cn := RX6) (T := TX6) (N := 43) (ci := 6) C uwX6_play_6 0 rfl rfl 19 (by decide) kwX6_play_4 (v := .ref (a 19)) rfl dX6_play_31 ?_
    refine r_iconst (v := 0) C dX6_play_34 (by decide) ?_
    obtain ⟨hi7, h⟩ := h
    refine r_zald C 15 rfl hi7 dX6_play_35 ?_
    refine r_if_eq (tgt := 43) C dX6_play_36 (by decide) (fun c8 => ?_) (fun c8 => ?_)
    · have h := h.1 c8
      refine r_iconst (v := 0) C dX6_play_43 (by decide) ?_
      exact r_iret C hZ (u := S6) h rfl dX6_play_44
    · have h := h.2 c8
      refine r_iconst (v := 1) C dX6_play_39 (by decide) ?_
      refine r_goto (tgt := 44) C dX6_play_40 (by decide) ?_
      exact r_iret C hZ (u := S6) h rfl dX6_play_44
  · have h := h.2 c2
    refine r_iconst (v := (-1)) C dX6_play_9 (by decide) ?_
    exact r_iret C hZ (u := S) h rfl dX6_play_10
def rmX6_openFor : Room := { frames := 4, cells := 0, slots := 0, locals := 94 }
theorem kwX6_openFor_0 : Cond.fieldLink RX6 193 "WantsBenchModel" "leastOut" "I" ∈ wsX6_openFor := by decide +kernel
theorem uwX6_openFor_6 : ∀ w ∈ wsX60, w ∈ wsX6_openFor := by decide +kernel
theorem kwX6_openFor_2 : Cond.fieldLink RX6 187 "WantsBenchModel" "playAt" "I" ∈ wsX6_openFor := by decide +kernel
theorem kwX6_openFor_3 : Cond.fieldLink RX6 53 "WantsBenchModel" "isSafe" "[Z" ∈ wsX6_openFor := by decide +kernel
def fX6_openFor_14b (N : Nat) (S : RS) (v1 : Int32) (v2 : Int32) (v3 : Int32) (R : Int32 → Int32 → RS → Prop) (K : Int32 → RS → Prop) (Q : Int32 → RS → Prop) : Prop :=
  ((v3 < 0 → K v2 S) ∧ (¬ v3 < 0 → (fX6_behind N S (S.1 23) (((8 : Int32) * v1) + v3) (fun r4 => ((r4 < 0 → (∀ x6 : Int32, x6 = v3 + (-1) → R v2 x6 S)) ∧ (¬ r4 < 0 → (vp_in r4 1024 ∧ (((S.2.1 19 r4.toNatClampNeg) = 0 → (∀ x9 : Int32, x9 = v3 + (-1) → R v2 x9 S)) ∧ (¬ (S.2.1 19 r4.toNatClampNeg) = 0 → (∀ x10 : Int32, x10 = v2 + 1 → (∀ S11 : RS, S11 = sI S 38 v3 → (∀ x12 : Int32, x12 = v3 + (-1) → R x10 x12 S11))))))))))))
set_option maxRecDepth 100000 in
set_option maxHeartbeats 4000000 in
theorem wfX6_openFor_14b {x : Nx} {g : Gx} {W0 : va_W} {a : Nat → Nat} {S : RS} {N : Nat} {v1 : Int32} {v2 : Int32} {v3 : Int32} {R : Int32 → Int32 → RS → Prop} {K : Int32 → RS → Prop} {Q : Int32 → RS → Prop} (C : Cx x g cX6_openFor RX6 wsX6_openFor rmX6_openFor yX6_openFor (some .int) 5) (hZ : Zq x g W0 (fun u : RS => mW g a u) (qI (fun (r : Int32) (u : RS) => Q r u)) 0 0) (hR : ∀ (w2 : Int32) (w3 : Int32) (S_ : RS), R w2 w3 S_ → St x 0 0 (mW g a S_) [(0, .ref (a 50)), (1, .int v1), (2, .int w2), (3, .int w3)] [] 14) (hK : ∀ (w2 : Int32) (S_ : RS), K w2 S_ → St x 0 0 (mW g a S_) [(2, .int w2)] [] 63) (h : fX6_openFor_14b N S v1 v2 v3 R K Q) : St x 0 0 (mW g a S) [(0, .ref (a 50)), (1, .int v1), (2, .int v2), (3, .int v3)] [] 14 := by
  unfold fX6_openFor_14b at h
  refine r_iload_n C dX6_openFor_14 rfl ?_
  refine r_if_lt (tgt := 63) C dX6_openFor_15 (by decide) (fun c3 => ?_) (fun c3 => ?_)
  · have h := h.1 c3
    refine r_sub [2] (lv' := [(2, .int v2)]) rfl ?_
    exact hK v2 S h
  · have h := h.2 c3
    refine r_aload_n C dX6_openFor_18 rfl ?_
    refine r_aload_n C dX6_openFor_19 rfl ?_
    refine r_get (cn := RX6) (T := TX6) (N := 43) (ci := 6) C uwX6_openFor_6 0 rfl rfl 23 (by decide) kwX6_openFor_2 (v := .int (S.1 23)) rfl dX6_openFor_20 ?_
    refine r_bipush (v := 8) C dX6_openFor_23 (by decide) ?_
    refine r_iload_n C dX6_openFor_25 rfl ?_
    refine r_imul C dX6_openFor_26 ?_
    refine r_iload_n C dX6_openFor_27 rfl ?_
    refine r_iadd C dX6_openFor_28 ?_
    refine callR_I C (run_V (As := [.int (S.1 23), .int (((8 : Int32) * v1) + v3)]) (rest := []) (ci := 6) C hZ.2.2 (tX6_behind _ g a S N (S.1 23) (((8 : Int32) * v1) + v3) _ h) gX6_openFor_X6_behind rfl dsX6_behind rfl rfl ⟨(Nat.le_of_ble_eq_true rfl), (Nat.le_of_ble_eq_true rfl)⟩ rfl (List.mem_of_getElem? (i := 0) rfl) rfl (Nat.le_of_ble_eq_true rfl) dX6_openFor_29 ⟨Nat.zero_le _, Nat.zero_le _⟩) (List.Sublist.refl _) (fun _ => rfl) (fun r4 _ h => ?_)
    refine r_istore (lv' := [(0, .ref (a 50)), (1, .int v1), (2, .int v2), (3, .int v3), (4, .int r4)]) C dX6_openFor_32 [some 0, some 1, some 2, some 3, none] (by decide) rfl rfl ?_
    refine r_iload C dX6_openFor_34 rfl ?_
    refine r_if_lt (tgt := 57) C dX6_openFor_36 (by decide) (fun c5 => ?_) (fun c5 => ?_)
    · have h := h.1 c5
      obtain ⟨x6, ex6⟩ : ∃ z : Int32, z = v3 + (-1) := ⟨_, rfl⟩
      have h := h x6 ex6
      refine r_iinc (v := x6) (lv' := [(0, .ref (a 50)), (1, .int v1), (2, .int v2), (3, .int x6)]) C dX6_openFor_57 rfl (by rw [ex6]; rfl) [some 0, some 1, some 2, none] (by decide) rfl rfl ?_
      refine r_goto (tgt := 14) C dX6_openFor_60 (by decide) ?_
      exact hR v2 x6 S h
    · have h := h.2 c5
      refine r_aload_n C dX6_openFor_39 rfl ?_
      refine r_get (cn := RX6) (T := TX6) (N := 43) (ci := 6) C uwX6_openFor_6 0 rfl rfl 19 (by decide) kwX6_openFor_3 (v := .ref (a 19)) rfl dX6_openFor_40 ?_
      refine r_iload C dX6_openFor_43 rfl ?_
      obtain ⟨hi7, h⟩ := h
      refine r_zald C 15 rfl hi7 dX6_openFor_45 ?_
      refine r_if_eq (tgt := 57) C dX6_openFor_46 (by decide) (fun c8 => ?_) (fun c8 => ?_)
      · have h := h.1 c8
        obtain ⟨x9, ex9⟩ : ∃ z : Int32, z = v3 + (-1) := ⟨_, rfl⟩
        have h := h x9 ex9
        refine r_iinc (v := x9) (lv' := [(0, .ref (a 50)), (1, .int v1), (2, .int v2), (3, .int x9)]) C dX6_openFor_57 rfl (by rw [ex9]; rfl) [some 0, some 1, some 2, none] (by decide) rfl rfl ?_
        refine r_goto (tgt := 14) C dX6_openFor_60 (by decide) ?_
        exact hR v2 x9 S h
      · have h := h.2 c8
        obtain ⟨x10, ex10⟩ : ∃ z : Int32, z = v2 + 1 := ⟨_, rfl⟩
        have h := h x10 ex10
        refine r_iinc (v := x10) (lv' := [(0, .ref (a 50)), (1, .int v1), (2, .int x10), (3, .int v3)]) C dX6_openFor_49 rfl (by rw [ex10]; rfl) [some 0, some 1, none, some 3] (by decide) rfl rfl ?_
        refine r_aload_n C dX6_openFor_52 rfl ?_
        refine r_iload_n C dX6_openFor_53 rfl ?_
        obtain ⟨S11, hS11⟩ : ∃ z : RS, z = sI S 38 v3 := ⟨_, rfl⟩
        have h := h S11 hS11
        refine r_put (cn := RX6) (T := TX6) (N := 43) (ci := 6) (ws' := mW g a S11) C uwX6_openFor_6 tyX6 tyX6_ok nmX6 0 rfl rfl 38 (by decide) kwX6_openFor_0 rfl rfl rfl (Nat.le_of_ble_eq_true rfl) dX6_openFor_54 (by rw [hS11]; rfl) ?_
        obtain ⟨x12, ex12⟩ : ∃ z : Int32, z = v3 + (-1) := ⟨_, rfl⟩
        have h := h x12 ex12
        refine r_iinc (v := x12) (lv' := [(0, .ref (a 50)), (1, .int v1), (2, .int x10), (3, .int x12)]) C dX6_openFor_57 rfl (by rw [ex12]; rfl) [some 0, some 1, some 2, none] (by decide) rfl rfl ?_
        refine r_goto (tgt := 14) C dX6_openFor_60 (by decide) ?_
        exact hR x10 x12 S11 h
def fX6_openFor_14 (N : Nat) (v1 : Int32) (K : Int32 → RS → Prop) (Q : Int32 → RS → Prop) : Nat → Int32 → Int32 → RS → Prop
  | 0, _, _, _ => False
  | n + 1, v2, v3, S => fX6_openFor_14b N S v1 v2 v3 (fun v2 v3 S => fX6_openFor_14 N v1 K Q n v2 v3 S) K Q
set_option maxRecDepth 100000 in
set_option maxHeartbeats 4000000 in
theorem wfX6_openFor_14 {x : Nx} {g : Gx} {W0 : va_W} {a : Nat → Nat}  {N : Nat} {v1 : Int32} {K : Int32 → RS → Prop} {Q : Int32 → RS → Prop} (C : Cx x g cX6_openFor RX6 wsX6_openFor rmX6_openFor yX6_openFor (some .int) 5) (hZ : Zq x g W0 (fun u : RS => mW g a u) (qI (fun (r : Int32) (u : RS) => Q r u)) 0 0) (hK : ∀ (w2 : Int32) (S_ : RS), K w2 S_ → St x 0 0 (mW g a S_) [(2, .int w2)] [] 63) : ∀ (n : Nat) (v2 : Int32) (v3 : Int32) (S : RS), fX6_openFor_14 N v1 K Q n v2 v3 S → St x 0 0 (mW g a S) [(0, .ref (a 50)), (1, .int v1), (2, .int v2), (3, .int v3)] [] 14 := by
  intro n
  induction n with
  | zero => intro v2 v3 S h; exact False.elim h
  | succ n ih => intro v2 v3 S h; exact wfX6_openFor_14b C hZ ih hK h
def fX6_openFor (N : Nat) (S : RS) (v1 : Int32) (Q : Int32 → RS → Prop) : Prop :=
  (fX6_takePlay N S (fun  S1 => (∀ S2 : RS, S2 = sI S1 38 (-1) → (fX6_openFor_14 N v1 (fun x13 S14 => Q x13 S14) Q N 0 7 S2))))
set_option maxRecDepth 100000 in
set_option maxHeartbeats 4000000 in
theorem tX6_openFor (l : Launch) (g : Gx) (a : Nat → Nat) (S : RS) (N : Nat) (v1 : Int32) (Q : Int32 → RS → Prop) (h : fX6_openFor N S v1 Q) : MetG l g yX6_openFor wsX6_openFor rmX6_openFor [.ref (a 50), .int v1] (mW g a S) (fun u : RS => mW g a u) (qI (fun (r : Int32) (u : RS) => Q r u)) 0 0 := by
  refine met_of (cc := cX6_openFor) (own := RX6) (nL := 5) (ret := (some .int)) (lv := [(0, .ref (a 50)), (1, .int v1)]) (by decide) rfl rfl (Nat.le_of_ble_eq_true rfl) rfl ?_
  intro x C hl hZ
  subst hl
  unfold fX6_openFor at h
  refine r_aload_n C dX6_openFor_0 rfl ?_
  refine callW_V C (run_V (As := []) (rest := []) (ci := 6) C hZ.2.2 (tX6_takePlay _ g a S N _ h) gX6_openFor_X6_takePlay rfl dsX6_takePlay rfl rfl ⟨(Nat.le_of_ble_eq_true rfl), (Nat.le_of_ble_eq_true rfl)⟩ rfl (List.mem_of_getElem? (i := 0) rfl) rfl (Nat.le_of_ble_eq_true rfl) dX6_openFor_1 ⟨Nat.zero_le _, Nat.zero_le _⟩) (fun S1 h => ?_)
  show St x 0 0 (mW g a S1) _ _ 4
  refine r_iconst (v := 0) C dX6_openFor_4 (by decide) ?_
  refine r_istore_n (lv' := [(0, .ref (a 50)), (1, .int v1), (2, .int 0)]) C dX6_openFor_5 [some 0, some 1, none] (by decide) rfl rfl ?_
  refine r_aload_n C dX6_openFor_6 rfl ?_
  refine r_iconst (v := (-1)) C dX6_openFor_7 (by decide) ?_
  obtain ⟨S2, hS2⟩ : ∃ z : RS, z = sI S1 38 (-1) := ⟨_, rfl⟩
  have h := h S2 hS2
  refine r_put (cn := RX6) (T := TX6) (N := 43) (ci := 6) (ws' := mW g a S2) C uwX6_openFor_6 tyX6 tyX6_ok nmX6 0 rfl rfl 38 (by decide) kwX6_openFor_0 rfl rfl rfl (Nat.le_of_ble_eq_true rfl) dX6_openFor_8 (by rw [hS2]; rfl) ?_
  refine r_bipush (v := 7) C dX6_openFor_11 (by decide) ?_
  refine r_istore_n (lv' := [(0, .ref (a 50)), (1, .int v1), (2, .int 0), (3, .int 7)]) C dX6_openFor_13 [some 0, some 1, some 2, none] (by decide) rfl rfl ?_
  refine wfX6_openFor_14 C hZ (fun x13 S14 h => ?_) N _ _ _ h
  refine r_iload_n C dX6_openFor_63 rfl ?_
  exact r_iret C hZ (u := S14) h rfl dX6_openFor_64
def rmX6_tick : Room := { frames := 5, cells := 0, slots := 0, locals := 118 }
theorem kwX6_tick_0 : Cond.fieldLink RX6 183 "WantsBenchModel" "isPlay" "Z" ∈ wsX6_tick := by decide +kernel
theorem uwX6_tick_6 : ∀ w ∈ wsX60, w ∈ wsX6_tick := by decide +kernel
theorem kwX6_tick_2 : Cond.fieldLink RX6 193 "WantsBenchModel" "leastOut" "I" ∈ wsX6_tick := by decide +kernel
theorem kwX6_tick_3 : Cond.fieldLink RX6 187 "WantsBenchModel" "playAt" "I" ∈ wsX6_tick := by decide +kernel
def fX6_tick (N : Nat) (S : RS) (v1 : Int32) (Q : Int32 → RS → Prop) : Prop :=
  (fX6_within N v1 0 7 (fun r1 => ((r1 = 0 → Q (-1) S) ∧ (¬ r1 = 0 → ((¬ (S.1 21) = 0 → (fX6_openFor N S v1 (fun r4 S5 => ((¬ r4 = 0 → (∀ x7 : Int32, x7 = S5.1 38 → (fX6_behind N S5 (S5.1 23) (((8 : Int32) * v1) + x7) (fun r8 => (∀ S9 : RS, S9 = sI S5 23 r8 → Q x7 S9))))) ∧ (r4 = 0 → (∀ S10 : RS, S10 = sI S5 21 0 → Q (-4) S10)))))) ∧ ((S.1 21) = 0 → Q (-1) S))))))
set_option maxRecDepth 100000 in
set_option maxHeartbeats 4000000 in
theorem tX6_tick (l : Launch) (g : Gx) (a : Nat → Nat) (S : RS) (N : Nat) (v1 : Int32) (Q : Int32 → RS → Prop) (h : fX6_tick N S v1 Q) : MetG l g yX6_tick wsX6_tick rmX6_tick [.ref (a 50), .int v1] (mW g a S) (fun u : RS => mW g a u) (qI (fun (r : Int32) (u : RS) => Q r u)) 0 0 := by
  refine met_of (cc := cX6_tick) (own := RX6) (nL := 3) (ret := (some .int)) (lv := [(0, .ref (a 50)), (1, .int v1)]) (by decide) rfl rfl (Nat.le_of_ble_eq_true rfl) rfl ?_
  intro x C hl hZ
  subst hl
  unfold fX6_tick at h
  refine r_iload_n C dX6_tick_0 rfl ?_
  refine r_iconst (v := 0) C dX6_tick_1 (by decide) ?_
  refine r_bipush (v := 7) C dX6_tick_2 (by decide) ?_
  refine callR_I C (run_S (As := [.int v1, .int 0, .int 7]) (rest := []) C hZ.2.2 (tX6_within _ g N v1 0 7 _ h) gX6_tick_X6_within rfl dsX6_within rfl rfl ⟨(Nat.le_of_ble_eq_true rfl), (Nat.le_of_ble_eq_true rfl)⟩ rfl (Nat.le_of_ble_eq_true rfl) dX6_tick_4 ⟨Nat.zero_le _, Nat.zero_le _⟩) (List.nil_sublist _) (fun _ => rfl) (fun r1 _ h => ?_)
  refine r_if_eq (tgt := 17) C dX6_tick_7 (by decide) (fun c2 => ?_) (fun c2 => ?_)
  · have h := h.1 c2
    refine r_iconst (v := (-1)) C dX6_tick_17 (by decide) ?_
    exact r_iret C hZ (u := S) h rfl dX6_tick_18
  · have h := h.2 c2
    refine r_aload_n C dX6_tick_10 rfl ?_
    refine r_get (cn := RX6) (T := TX6) (N := 43) (ci := 6) C uwX6_tick_6 0 rfl rfl 21 (by decide) kwX6_tick_0 (v := .int (S.1 21)) rfl dX6_tick_11 ?_
    refine r_if_ne (tgt := 19) C dX6_tick_14 (by decide) (fun c3 => ?_) (fun c3 => ?_)
    · have h := h.1 c3
      refine r_aload_n C dX6_tick_19 rfl ?_
      refine r_iload_n C dX6_tick_20 rfl ?_
      refine callW_I C (run_V (As := [.int v1]) (rest := []) (ci := 6) C hZ.2.2 (tX6_openFor _ g a S N v1 _ h) gX6_tick_X6_openFor rfl dsX6_openFor rfl rfl ⟨(Nat.le_of_ble_eq_true rfl), (Nat.le_of_ble_eq_true rfl)⟩ rfl (List.mem_of_getElem? (i := 0) rfl) rfl (Nat.le_of_ble_eq_true rfl) dX6_tick_21 ⟨Nat.zero_le _, Nat.zero_le _⟩) (fun r4 S5 h => ?_)
      show St x 0 0 (mW g a S5) _ _ 24
      refine r_if_ne (tgt := 35) C dX6_tick_24 (by decide) (fun c6 => ?_) (fun c6 => ?_)
      · have h := h.1 c6
        refine r_aload_n C dX6_tick_35 rfl ?_
        refine r_get (cn := RX6) (T := TX6) (N := 43) (ci := 6) C uwX6_tick_6 0 rfl rfl 38 (by decide) kwX6_tick_2 (v := .int (S5.1 38)) rfl dX6_tick_36 ?_
        refine r_topi (fun x7 ex7 => ?_)
        have h := h x7 ex7
        refine r_istore_n (lv' := [(0, .ref (a 50)), (1, .int v1), (2, .int x7)]) C dX6_tick_39 [some 0, some 1, none] (by decide) rfl rfl ?_
        refine r_aload_n C dX6_tick_40 rfl ?_
        refine r_aload_n C dX6_tick_41 rfl ?_
        refine r_aload_n C dX6_tick_42 rfl ?_
        refine r_get (cn := RX6) (T := TX6) (N := 43) (ci := 6) C uwX6_tick_6 0 rfl rfl 23 (by decide) kwX6_tick_3 (v := .int (S5.1 23)) rfl dX6_tick_43 ?_
        refine r_bipush (v := 8) C dX6_tick_46 (by decide) ?_
        refine r_iload_n C dX6_tick_48 rfl ?_
        refine r_imul C dX6_tick_49 ?_
        refine r_iload_n C dX6_tick_50 rfl ?_
        refine r_iadd C dX6_tick_51 ?_
        refine callR_I C (run_V (As := [.int (S5.1 23), .int (((8 : Int32) * v1) + x7)]) (rest := [.ref (a 50)]) (ci := 6) C hZ.2.2 (tX6_behind _ g a S5 N (S5.1 23) (((8 : Int32) * v1) + x7) _ h) gX6_tick_X6_behind rfl dsX6_behind rfl rfl ⟨(Nat.le_of_ble_eq_true rfl), (Nat.le_of_ble_eq_true rfl)⟩ rfl (List.mem_of_getElem? (i := 0) rfl) rfl (Nat.le_of_ble_eq_true rfl) dX6_tick_52 ⟨Nat.zero_le _, Nat.zero_le _⟩) (List.Sublist.refl _) (fun _ => rfl) (fun r8 _ h => ?_)
        obtain ⟨S9, hS9⟩ : ∃ z : RS, z = sI S5 23 r8 := ⟨_, rfl⟩
        have h := h S9 hS9
        refine r_put (cn := RX6) (T := TX6) (N := 43) (ci := 6) (ws' := mW g a S9) C uwX6_tick_6 tyX6 tyX6_ok nmX6 0 rfl rfl 23 (by decide) kwX6_tick_3 rfl rfl rfl (Nat.le_of_ble_eq_true rfl) dX6_tick_55 (by rw [hS9]; rfl) ?_
        refine r_iload_n C dX6_tick_58 rfl ?_
        exact r_iret C hZ (u := S9) h rfl dX6_tick_59
      · have h := h.2 c6
        refine r_aload_n C dX6_tick_27 rfl ?_
        refine r_iconst (v := 0) C dX6_tick_28 (by decide) ?_
        obtain ⟨S10, hS10⟩ : ∃ z : RS, z = sI S5 21 0 := ⟨_, rfl⟩
        have h := h S10 hS10
        refine r_put (cn := RX6) (T := TX6) (N := 43) (ci := 6) (ws' := mW g a S10) C uwX6_tick_6 tyX6 tyX6_ok nmX6 0 rfl rfl 21 (by decide) kwX6_tick_0 rfl rfl rfl (Nat.le_of_ble_eq_true rfl) dX6_tick_29 (by rw [hS10]; rfl) ?_
        refine r_bipush (v := (-4)) C dX6_tick_32 (by decide) ?_
        exact r_iret C hZ (u := S10) h rfl dX6_tick_34
    · have h := h.2 c3
      refine r_iconst (v := (-1)) C dX6_tick_17 (by decide) ?_
      exact r_iret C hZ (u := S) h rfl dX6_tick_18
def rmX6_open : Room := { frames := 5, cells := 0, slots := 0, locals := 118 }
theorem kwX6_open_0 : Cond.fieldLink RX6 183 "WantsBenchModel" "isPlay" "Z" ∈ wsX6_open := by decide +kernel
theorem uwX6_open_6 : ∀ w ∈ wsX60, w ∈ wsX6_open := by decide +kernel
def fX6_open (N : Nat) (S : RS) (v1 : Int32) (Q : Int32 → RS → Prop) : Prop :=
  (fX6_within N v1 0 7 (fun r1 => ((r1 = 0 → Q (-1) S) ∧ (¬ r1 = 0 → (((S.1 21) = 0 → Q (-1) S) ∧ (¬ (S.1 21) = 0 → (fX6_openFor N S v1 (fun r4 S5 => Q r4 S5))))))))
set_option maxRecDepth 100000 in
set_option maxHeartbeats 4000000 in
theorem tX6_open (l : Launch) (g : Gx) (a : Nat → Nat) (S : RS) (N : Nat) (v1 : Int32) (Q : Int32 → RS → Prop) (h : fX6_open N S v1 Q) : MetG l g yX6_open wsX6_open rmX6_open [.ref (a 50), .int v1] (mW g a S) (fun u : RS => mW g a u) (qI (fun (r : Int32) (u : RS) => Q r u)) 0 0 := by
  refine met_of (cc := cX6_open) (own := RX6) (nL := 2) (ret := (some .int)) (lv := [(0, .ref (a 50)), (1, .int v1)]) (by decide) rfl rfl (Nat.le_of_ble_eq_true rfl) rfl ?_
  intro x C hl hZ
  subst hl
  unfold fX6_open at h
  refine r_iload_n C dX6_open_0 rfl ?_
  refine r_iconst (v := 0) C dX6_open_1 (by decide) ?_
  refine r_bipush (v := 7) C dX6_open_2 (by decide) ?_
  refine callR_I C (run_S (As := [.int v1, .int 0, .int 7]) (rest := []) C hZ.2.2 (tX6_within _ g N v1 0 7 _ h) gX6_open_X6_within rfl dsX6_within rfl rfl ⟨(Nat.le_of_ble_eq_true rfl), (Nat.le_of_ble_eq_true rfl)⟩ rfl (Nat.le_of_ble_eq_true rfl) dX6_open_4 ⟨Nat.zero_le _, Nat.zero_le _⟩) (List.nil_sublist _) (fun _ => rfl) (fun r1 _ h => ?_)
  refine r_if_eq (tgt := 25) C dX6_open_7 (by decide) (fun c2 => ?_) (fun c2 => ?_)
  · have h := h.1 c2
    refine r_iconst (v := (-1)) C dX6_open_25 (by decide) ?_
    exact r_iret C hZ (u := S) h rfl dX6_open_26
  · have h := h.2 c2
    refine r_aload_n C dX6_open_10 rfl ?_
    refine r_get (cn := RX6) (T := TX6) (N := 43) (ci := 6) C uwX6_open_6 0 rfl rfl 21 (by decide) kwX6_open_0 (v := .int (S.1 21)) rfl dX6_open_11 ?_
    refine r_if_eq (tgt := 25) C dX6_open_14 (by decide) (fun c3 => ?_) (fun c3 => ?_)
    · have h := h.1 c3
      refine r_iconst (v := (-1)) C dX6_open_25 (by decide) ?_
      exact r_iret C hZ (u := S) h rfl dX6_open_26
    · have h := h.2 c3
      refine r_aload_n C dX6_open_17 rfl ?_
      refine r_iload_n C dX6_open_18 rfl ?_
      refine callW_I C (run_V (As := [.int v1]) (rest := []) (ci := 6) C hZ.2.2 (tX6_openFor _ g a S N v1 _ h) gX6_open_X6_openFor rfl dsX6_openFor rfl rfl ⟨(Nat.le_of_ble_eq_true rfl), (Nat.le_of_ble_eq_true rfl)⟩ rfl (List.mem_of_getElem? (i := 0) rfl) rfl (Nat.le_of_ble_eq_true rfl) dX6_open_19 ⟨Nat.zero_le _, Nat.zero_le _⟩) (fun r4 S5 h => ?_)
      show St x 0 0 (mW g a S5) _ _ 22
      refine r_goto (tgt := 26) C dX6_open_22 (by decide) ?_
      exact r_iret C hZ (u := S5) h rfl dX6_open_26
def rmX6_state : Room := { frames := 1, cells := 0, slots := 0, locals := 21 }
theorem kwX6_state_0 : Cond.fieldLink RX6 183 "WantsBenchModel" "isPlay" "Z" ∈ wsX6_state := by decide +kernel
theorem uwX6_state_6 : ∀ w ∈ wsX60, w ∈ wsX6_state := by decide +kernel
theorem kwX6_state_2 : Cond.fieldLink RX6 180 "WantsBenchModel" "playSet" "I" ∈ wsX6_state := by decide +kernel
theorem kwX6_state_3 : Cond.fieldLink RX6 187 "WantsBenchModel" "playAt" "I" ∈ wsX6_state := by decide +kernel
def fX6_state_35b (N : Nat) (S : RS) (v1 : Int32) (v2 : Int32) (v3 : Int32) (R : Int32 → Int32 → Prop) (K : Int32 → Prop) (Q : Int32 → Prop) : Prop :=
  ((v1 ≤ v3 → K v2) ∧ (¬ v1 ≤ v3 → ((¬ (((S.1 22) >>> (v3 &&& 31)) &&& (1 : Int32)) = 1 → (∀ x8 : Int32, x8 = v2 / (1 : Int32) → (∀ x9 : Int32, x9 = v3 + 1 → R x8 x9))) ∧ ((((S.1 22) >>> (v3 &&& 31)) &&& (1 : Int32)) = 1 → (∀ x10 : Int32, x10 = v2 / (4 : Int32) → (∀ x11 : Int32, x11 = v3 + 1 → R x10 x11))))))
set_option maxRecDepth 100000 in
set_option maxHeartbeats 4000000 in
theorem wfX6_state_35b {x : Nx} {g : Gx} {W0 : va_W} {a : Nat → Nat} {S : RS} {N : Nat} {v1 : Int32} {v2 : Int32} {v3 : Int32} {R : Int32 → Int32 → Prop} {K : Int32 → Prop} {Q : Int32 → Prop} (C : Cx x g cX6_state RX6 wsX6_state rmX6_state yX6_state (some .int) 4) (hZ : Zq x g W0 (fun _ : Unit => mW g a S) (qI (fun (r : Int32) (_ : Unit) => Q r)) 0 0) (hR : ∀ (w2 : Int32) (w3 : Int32), R w2 w3 → St x 0 0 (mW g a S) [(0, .ref (a 50)), (1, .int v1), (2, .int w2), (3, .int w3)] [] 35) (hK : ∀ (w2 : Int32), K w2 → St x 0 0 (mW g a S) [(2, .int w2)] [] 66) (h : fX6_state_35b N S v1 v2 v3 R K Q) : St x 0 0 (mW g a S) [(0, .ref (a 50)), (1, .int v1), (2, .int v2), (3, .int v3)] [] 35 := by
  unfold fX6_state_35b at h
  refine r_iload_n C dX6_state_35 rfl ?_
  refine r_iload_n C dX6_state_36 rfl ?_
  refine r_icmp_ge (tgt := 66) C dX6_state_37 (by decide) (fun c6 => ?_) (fun c6 => ?_)
  · have h := h.1 c6
    refine r_sub [2] (lv' := [(2, .int v2)]) rfl ?_
    exact hK v2 h
  · have h := h.2 c6
    refine r_iload_n C dX6_state_40 rfl ?_
    refine r_aload_n C dX6_state_41 rfl ?_
    refine r_get (cn := RX6) (T := TX6) (N := 43) (ci := 6) C uwX6_state_6 0 rfl rfl 22 (by decide) kwX6_state_2 (v := .int (S.1 22)) rfl dX6_state_42 ?_
    refine r_iload_n C dX6_state_45 rfl ?_
    refine r_ishr C dX6_state_46 ?_
    refine r_iconst (v := 1) C dX6_state_47 (by decide) ?_
    refine r_iand C dX6_state_48 ?_
    refine r_iconst (v := 1) C dX6_state_49 (by decide) ?_
    refine r_icmp_ne (tgt := 57) C dX6_state_50 (by decide) (fun c7 => ?_) (fun c7 => ?_)
    · have h := h.1 c7
      refine r_iconst (v := 1) C dX6_state_57 (by decide) ?_
      refine r_idiv C dX6_state_58 (by decide) ?_
      refine r_topi (fun x8 ex8 => ?_)
      have h := h x8 ex8
      refine r_istore_n (lv' := [(0, .ref (a 50)), (1, .int v1), (2, .int x8), (3, .int v3)]) C dX6_state_59 [some 0, some 1, none, some 3] (by decide) rfl rfl ?_
      obtain ⟨x9, ex9⟩ : ∃ z : Int32, z = v3 + 1 := ⟨_, rfl⟩
      have h := h x9 ex9
      refine r_iinc (v := x9) (lv' := [(0, .ref (a 50)), (1, .int v1), (2, .int x8), (3, .int x9)]) C dX6_state_60 rfl (by rw [ex9]; rfl) [some 0, some 1, some 2, none] (by decide) rfl rfl ?_
      refine r_goto (tgt := 35) C dX6_state_63 (by decide) ?_
      exact hR x8 x9 h
    · have h := h.2 c7
      refine r_iconst (v := 4) C dX6_state_53 (by decide) ?_
      refine r_goto (tgt := 58) C dX6_state_54 (by decide) ?_
      refine r_idiv C dX6_state_58 (by decide) ?_
      refine r_topi (fun x10 ex10 => ?_)
      have h := h x10 ex10
      refine r_istore_n (lv' := [(0, .ref (a 50)), (1, .int v1), (2, .int x10), (3, .int v3)]) C dX6_state_59 [some 0, some 1, none, some 3] (by decide) rfl rfl ?_
      obtain ⟨x11, ex11⟩ : ∃ z : Int32, z = v3 + 1 := ⟨_, rfl⟩
      have h := h x11 ex11
      refine r_iinc (v := x11) (lv' := [(0, .ref (a 50)), (1, .int v1), (2, .int x10), (3, .int x11)]) C dX6_state_60 rfl (by rw [ex11]; rfl) [some 0, some 1, some 2, none] (by decide) rfl rfl ?_
      refine r_goto (tgt := 35) C dX6_state_63 (by decide) ?_
      exact hR x10 x11 h
def fX6_state_35 (N : Nat) (S : RS) (v1 : Int32) (K : Int32 → Prop) (Q : Int32 → Prop) : Nat → Int32 → Int32 → Prop
  | 0, _, _ => False
  | n + 1, v2, v3 => fX6_state_35b N S v1 v2 v3 (fun v2 v3 => fX6_state_35 N S v1 K Q n v2 v3) K Q
set_option maxRecDepth 100000 in
set_option maxHeartbeats 4000000 in
theorem wfX6_state_35 {x : Nx} {g : Gx} {W0 : va_W} {a : Nat → Nat} {S : RS} {N : Nat} {v1 : Int32} {K : Int32 → Prop} {Q : Int32 → Prop} (C : Cx x g cX6_state RX6 wsX6_state rmX6_state yX6_state (some .int) 4) (hZ : Zq x g W0 (fun _ : Unit => mW g a S) (qI (fun (r : Int32) (_ : Unit) => Q r)) 0 0) (hK : ∀ (w2 : Int32), K w2 → St x 0 0 (mW g a S) [(2, .int w2)] [] 66) : ∀ (n : Nat) (v2 : Int32) (v3 : Int32), fX6_state_35 N S v1 K Q n v2 v3 → St x 0 0 (mW g a S) [(0, .ref (a 50)), (1, .int v1), (2, .int v2), (3, .int v3)] [] 35 := by
  intro n
  induction n with
  | zero => intro v2 v3 h; exact False.elim h
  | succ n ih => intro v2 v3 h; exact wfX6_state_35b C hZ ih hK h
def fX6_state (N : Nat) (S : RS) (v1 : Int32) (Q : Int32 → Prop) : Prop :=
  (fX6_isWant N S v1 (fun r1 => ((r1 = 0 → Q (-1)) ∧ (¬ r1 = 0 → (((S.1 21) = 0 → Q (-1)) ∧ (¬ (S.1 21) = 0 → ((¬ (((S.1 22) >>> (v1 &&& 31)) &&& (1 : Int32)) = 0 → (∀ x5 : Int32, x5 = S.1 23 → (fX6_state_35 N S v1 (fun x12 => Q (x12 - x12 / (4 : Int32) * (4 : Int32))) Q N x5 0))) ∧ ((((S.1 22) >>> (v1 &&& 31)) &&& (1 : Int32)) = 0 → Q (-1)))))))))
set_option maxRecDepth 100000 in
set_option maxHeartbeats 4000000 in
theorem tX6_state (l : Launch) (g : Gx) (a : Nat → Nat) (S : RS) (N : Nat) (v1 : Int32) (Q : Int32 → Prop) (h : fX6_state N S v1 Q) : MetG l g yX6_state wsX6_state rmX6_state [.ref (a 50), .int v1] (mW g a S) (fun _ : Unit => mW g a S) (qI (fun (r : Int32) (_ : Unit) => Q r)) 0 0 := by
  refine met_of (cc := cX6_state) (own := RX6) (nL := 4) (ret := (some .int)) (lv := [(0, .ref (a 50)), (1, .int v1)]) (by decide) rfl rfl (Nat.le_of_ble_eq_true rfl) rfl ?_
  intro x C hl hZ
  subst hl
  unfold fX6_state at h
  refine r_aload_n C dX6_state_0 rfl ?_
  refine r_iload_n C dX6_state_1 rfl ?_
  refine callR_I C (run_V (As := [.int v1]) (rest := []) (ci := 6) C hZ.2.2 (tX6_isWant _ g a S N v1 _ h) gX6_state_X6_isWant rfl dsX6_isWant rfl rfl ⟨(Nat.le_of_ble_eq_true rfl), (Nat.le_of_ble_eq_true rfl)⟩ rfl (List.mem_of_getElem? (i := 0) rfl) rfl (Nat.le_of_ble_eq_true rfl) dX6_state_2 ⟨Nat.zero_le _, Nat.zero_le _⟩) (List.Sublist.refl _) (fun _ => rfl) (fun r1 _ h => ?_)
  refine r_if_eq (tgt := 26) C dX6_state_5 (by decide) (fun c2 => ?_) (fun c2 => ?_)
  · have h := h.1 c2
    refine r_iconst (v := (-1)) C dX6_state_26 (by decide) ?_
    exact r_iret C hZ (u := ()) h rfl dX6_state_27
  · have h := h.2 c2
    refine r_aload_n C dX6_state_8 rfl ?_
    refine r_get (cn := RX6) (T := TX6) (N := 43) (ci := 6) C uwX6_state_6 0 rfl rfl 21 (by decide) kwX6_state_0 (v := .int (S.1 21)) rfl dX6_state_9 ?_
    refine r_if_eq (tgt := 26) C dX6_state_12 (by decide) (fun c3 => ?_) (fun c3 => ?_)
    · have h := h.1 c3
      refine r_iconst (v := (-1)) C dX6_state_26 (by decide) ?_
      exact r_iret C hZ (u := ()) h rfl dX6_state_27
    · have h := h.2 c3
      refine r_aload_n C dX6_state_15 rfl ?_
      refine r_get (cn := RX6) (T := TX6) (N := 43) (ci := 6) C uwX6_state_6 0 rfl rfl 22 (by decide) kwX6_state_2 (v := .int (S.1 22)) rfl dX6_state_16 ?_
      refine r_iload_n C dX6_state_19 rfl ?_
      refine r_ishr C dX6_state_20 ?_
      refine r_iconst (v := 1) C dX6_state_21 (by decide) ?_
      refine r_iand C dX6_state_22 ?_
      refine r_if_ne (tgt := 28) C dX6_state_23 (by decide) (fun c4 => ?_) (fun c4 => ?_)
      · have h := h.1 c4
        refine r_aload_n C dX6_state_28 rfl ?_
        refine r_get (cn := RX6) (T := TX6) (N := 43) (ci := 6) C uwX6_state_6 0 rfl rfl 23 (by decide) kwX6_state_3 (v := .int (S.1 23)) rfl dX6_state_29 ?_
        refine r_topi (fun x5 ex5 => ?_)
        have h := h x5 ex5
        refine r_istore_n (lv' := [(0, .ref (a 50)), (1, .int v1), (2, .int x5)]) C dX6_state_32 [some 0, some 1, none] (by decide) rfl rfl ?_
        refine r_iconst (v := 0) C dX6_state_33 (by decide) ?_
        refine r_istore_n (lv' := [(0, .ref (a 50)), (1, .int v1), (2, .int x5), (3, .int 0)]) C dX6_state_34 [some 0, some 1, some 2, none] (by decide) rfl rfl ?_
        refine wfX6_state_35 C hZ (fun x12 h => ?_) N _ _ h
        refine r_iload_n C dX6_state_66 rfl ?_
        refine r_iconst (v := 4) C dX6_state_67 (by decide) ?_
        refine r_irem C dX6_state_68 (by decide) ?_
        exact r_iret C hZ (u := ()) h rfl dX6_state_69
      · have h := h.2 c4
        refine r_iconst (v := (-1)) C dX6_state_26 (by decide) ?_
        exact r_iret C hZ (u := ()) h rfl dX6_state_27
def rmX6_breaks : Room := { frames := 1, cells := 0, slots := 0, locals := 27 }
theorem kwX6_breaks_0 : Cond.fieldLink RX6 57 "WantsBenchModel" "losesIn" "[I" ∈ wsX6_breaks := by decide +kernel
theorem uwX6_breaks_6 : ∀ w ∈ wsX60, w ∈ wsX6_breaks := by decide +kernel
def fX6_breaks_3b (N : Nat) (S : RS) (v1 : Int32) (v2 : Int32) (v3 : Int32) (v4 : Int32) (R : Int32 → Prop) (K : Prop) (Q : Int32 → Prop) : Prop :=
  ((8 ≤ v4 → K) ∧ (¬ 8 ≤ v4 → (fX6_behind N S v1 (((8 : Int32) * v2) + v4) (fun r2 => ((r2 < 0 → (∀ x4 : Int32, x4 = v4 + 1 → R x4)) ∧ (¬ r2 < 0 → (vp_in r2 1024 ∧ (((S.2.1 20 r2.toNatClampNeg) < 0 → Q 0) ∧ (¬ (S.2.1 20 r2.toNatClampNeg) < 0 → (vp_in r2 1024 ∧ (((S.2.1 20 r2.toNatClampNeg) < v3 → (∀ x9 : Int32, x9 = v4 + 1 → R x9)) ∧ (¬ (S.2.1 20 r2.toNatClampNeg) < v3 → Q 0))))))))))))
set_option maxRecDepth 100000 in
set_option maxHeartbeats 4000000 in
theorem wfX6_breaks_3b {x : Nx} {g : Gx} {W0 : va_W} {a : Nat → Nat} {S : RS} {N : Nat} {v1 : Int32} {v2 : Int32} {v3 : Int32} {v4 : Int32} {R : Int32 → Prop} {K : Prop} {Q : Int32 → Prop} (C : Cx x g cX6_breaks RX6 wsX6_breaks rmX6_breaks yX6_breaks (some .boolean) 6) (hZ : Zq x g W0 (fun _ : Unit => mW g a S) (qI (fun (r : Int32) (_ : Unit) => Q r)) 0 0) (hR : ∀ (w4 : Int32), R w4 → St x 0 0 (mW g a S) [(0, .ref (a 50)), (1, .int v1), (2, .int v2), (3, .int v3), (4, .int w4)] [] 3) (hK : K → St x 0 0 (mW g a S) [] [] 58) (h : fX6_breaks_3b N S v1 v2 v3 v4 R K Q) : St x 0 0 (mW g a S) [(0, .ref (a 50)), (1, .int v1), (2, .int v2), (3, .int v3), (4, .int v4)] [] 3 := by
  unfold fX6_breaks_3b at h
  refine r_iload C dX6_breaks_3 rfl ?_
  refine r_bipush (v := 8) C dX6_breaks_5 (by decide) ?_
  refine r_icmp_ge (tgt := 58) C dX6_breaks_7 (by decide) (fun c1 => ?_) (fun c1 => ?_)
  · have h := h.1 c1
    refine r_sub [] (lv' := []) rfl ?_
    exact hK h
  · have h := h.2 c1
    refine r_aload_n C dX6_breaks_10 rfl ?_
    refine r_iload_n C dX6_breaks_11 rfl ?_
    refine r_bipush (v := 8) C dX6_breaks_12 (by decide) ?_
    refine r_iload_n C dX6_breaks_14 rfl ?_
    refine r_imul C dX6_breaks_15 ?_
    refine r_iload C dX6_breaks_16 rfl ?_
    refine r_iadd C dX6_breaks_18 ?_
    refine callR_I C (run_V (As := [.int v1, .int (((8 : Int32) * v2) + v4)]) (rest := []) (ci := 6) C hZ.2.2 (tX6_behind _ g a S N v1 (((8 : Int32) * v2) + v4) _ h) gX6_breaks_X6_behind rfl dsX6_behind rfl rfl ⟨(Nat.le_of_ble_eq_true rfl), (Nat.le_of_ble_eq_true rfl)⟩ rfl (List.mem_of_getElem? (i := 0) rfl) rfl (Nat.le_of_ble_eq_true rfl) dX6_breaks_19 ⟨Nat.zero_le _, Nat.zero_le _⟩) (List.Sublist.refl _) (fun _ => rfl) (fun r2 _ h => ?_)
    refine r_istore (lv' := [(0, .ref (a 50)), (1, .int v1), (2, .int v2), (3, .int v3), (4, .int v4), (5, .int r2)]) C dX6_breaks_22 [some 0, some 1, some 2, some 3, some 4, none] (by decide) rfl rfl ?_
    refine r_iload C dX6_breaks_24 rfl ?_
    refine r_if_lt (tgt := 52) C dX6_breaks_26 (by decide) (fun c3 => ?_) (fun c3 => ?_)
    · have h := h.1 c3
      obtain ⟨x4, ex4⟩ : ∃ z : Int32, z = v4 + 1 := ⟨_, rfl⟩
      have h := h x4 ex4
      refine r_iinc (v := x4) (lv' := [(0, .ref (a 50)), (1, .int v1), (2, .int v2), (3, .int v3), (4, .int x4)]) C dX6_breaks_52 rfl (by rw [ex4]; rfl) [some 0, some 1, some 2, some 3, none] (by decide) rfl rfl ?_
      refine r_goto (tgt := 3) C dX6_breaks_55 (by decide) ?_
      exact hR x4 h
    · have h := h.2 c3
      refine r_aload_n C dX6_breaks_29 rfl ?_
      refine r_get (cn := RX6) (T := TX6) (N := 43) (ci := 6) C uwX6_breaks_6 0 rfl rfl 20 (by decide) kwX6_breaks_0 (v := .ref (a 20)) rfl dX6_breaks_30 ?_
      refine r_iload C dX6_breaks_33 rfl ?_
      obtain ⟨hi5, h⟩ := h
      refine r_iald C 16 rfl hi5 dX6_breaks_35 ?_
      refine r_if_lt (tgt := 50) C dX6_breaks_36 (by decide) (fun c6 => ?_) (fun c6 => ?_)
      · have h := h.1 c6
        refine r_iconst (v := 0) C dX6_breaks_50 (by decide) ?_
        exact r_zret C hZ (u := ()) (by decide) h rfl dX6_breaks_51
      · have h := h.2 c6
        refine r_aload_n C dX6_breaks_39 rfl ?_
        refine r_get (cn := RX6) (T := TX6) (N := 43) (ci := 6) C uwX6_breaks_6 0 rfl rfl 20 (by decide) kwX6_breaks_0 (v := .ref (a 20)) rfl dX6_breaks_40 ?_
        refine r_iload C dX6_breaks_43 rfl ?_
        obtain ⟨hi7, h⟩ := h
        refine r_iald C 16 rfl hi7 dX6_breaks_45 ?_
        refine r_iload_n C dX6_breaks_46 rfl ?_
        refine r_icmp_lt (tgt := 52) C dX6_breaks_47 (by decide) (fun c8 => ?_) (fun c8 => ?_)
        · have h := h.1 c8
          obtain ⟨x9, ex9⟩ : ∃ z : Int32, z = v4 + 1 := ⟨_, rfl⟩
          have h := h x9 ex9
          refine r_iinc (v := x9) (lv' := [(0, .ref (a 50)), (1, .int v1), (2, .int v2), (3, .int v3), (4, .int x9)]) C dX6_breaks_52 rfl (by rw [ex9]; rfl) [some 0, some 1, some 2, some 3, none] (by decide) rfl rfl ?_
          refine r_goto (tgt := 3) C dX6_breaks_55 (by decide) ?_
          exact hR x9 h
        · have h := h.2 c8
          refine r_iconst (v := 0) C dX6_breaks_50 (by decide) ?_
          exact r_zret C hZ (u := ()) (by decide) h rfl dX6_breaks_51
def fX6_breaks_3 (N : Nat) (S : RS) (v1 : Int32) (v2 : Int32) (v3 : Int32) (K : Prop) (Q : Int32 → Prop) : Nat → Int32 → Prop
  | 0, _ => False
  | n + 1, v4 => fX6_breaks_3b N S v1 v2 v3 v4 (fun v4 => fX6_breaks_3 N S v1 v2 v3 K Q n v4) K Q
set_option maxRecDepth 100000 in
set_option maxHeartbeats 4000000 in
theorem wfX6_breaks_3 {x : Nx} {g : Gx} {W0 : va_W} {a : Nat → Nat} {S : RS} {N : Nat} {v1 : Int32} {v2 : Int32} {v3 : Int32} {K : Prop} {Q : Int32 → Prop} (C : Cx x g cX6_breaks RX6 wsX6_breaks rmX6_breaks yX6_breaks (some .boolean) 6) (hZ : Zq x g W0 (fun _ : Unit => mW g a S) (qI (fun (r : Int32) (_ : Unit) => Q r)) 0 0) (hK : K → St x 0 0 (mW g a S) [] [] 58) : ∀ (n : Nat) (v4 : Int32), fX6_breaks_3 N S v1 v2 v3 K Q n v4 → St x 0 0 (mW g a S) [(0, .ref (a 50)), (1, .int v1), (2, .int v2), (3, .int v3), (4, .int v4)] [] 3 := by
  intro n
  induction n with
  | zero => intro v4 h; exact False.elim h
  | succ n ih => intro v4 h; exact wfX6_breaks_3b C hZ ih hK h
def fX6_breaks (N : Nat) (S : RS) (v1 : Int32) (v2 : Int32) (v3 : Int32) (Q : Int32 → Prop) : Prop :=
  (fX6_breaks_3 N S v1 v2 v3 (Q 1) Q N 0)
set_option maxRecDepth 100000 in
set_option maxHeartbeats 4000000 in
theorem tX6_breaks (l : Launch) (g : Gx) (a : Nat → Nat) (S : RS) (N : Nat) (v1 : Int32) (v2 : Int32) (v3 : Int32) (Q : Int32 → Prop) (h : fX6_breaks N S v1 v2 v3 Q) : MetG l g yX6_breaks wsX6_breaks rmX6_breaks [.ref (a 50), .int v1, .int v2, .int v3] (mW g a S) (fun _ : Unit => mW g a S) (qI (fun (r : Int32) (_ : Unit) => Q r)) 0 0 := by
  refine met_of (cc := cX6_breaks) (own := RX6) (nL := 6) (ret := (some .boolean)) (lv := [(0, .ref (a 50)), (1, .int v1), (2, .int v2), (3, .int v3)]) (by decide) rfl rfl (Nat.le_of_ble_eq_true rfl) rfl ?_
  intro x C hl hZ
  subst hl
  unfold fX6_breaks at h
  refine r_iconst (v := 0) C dX6_breaks_0 (by decide) ?_
  refine r_istore (lv' := [(0, .ref (a 50)), (1, .int v1), (2, .int v2), (3, .int v3), (4, .int 0)]) C dX6_breaks_1 [some 0, some 1, some 2, some 3, none] (by decide) rfl rfl ?_
  refine wfX6_breaks_3 C hZ (fun h => ?_) N _ h
  refine r_iconst (v := 1) C dX6_breaks_58 (by decide) ?_
  exact r_zret C hZ (u := ()) (by decide) h rfl dX6_breaks_59
def rmX6_breakingIn : Room := { frames := 2, cells := 0, slots := 0, locals := 52 }
def fX6_breakingIn_2b (N : Nat) (S : RS) (v1 : Int32) (v2 : Int32) (v3 : Int32) (R : Int32 → Prop) (K : Prop) (Q : Int32 → Prop) : Prop :=
  ((8 ≤ v3 → K) ∧ (¬ 8 ≤ v3 → (fX6_breaks N S v1 v3 v2 (fun r2 => ((r2 = 0 → (∀ x4 : Int32, x4 = v3 + 1 → R x4)) ∧ (¬ r2 = 0 → Q v3))))))
set_option maxRecDepth 100000 in
set_option maxHeartbeats 4000000 in
theorem wfX6_breakingIn_2b {x : Nx} {g : Gx} {W0 : va_W} {a : Nat → Nat} {S : RS} {N : Nat} {v1 : Int32} {v2 : Int32} {v3 : Int32} {R : Int32 → Prop} {K : Prop} {Q : Int32 → Prop} (C : Cx x g cX6_breakingIn RX6 wsX6_breakingIn rmX6_breakingIn yX6_breakingIn (some .int) 4) (hZ : Zq x g W0 (fun _ : Unit => mW g a S) (qI (fun (r : Int32) (_ : Unit) => Q r)) 0 0) (hR : ∀ (w3 : Int32), R w3 → St x 0 0 (mW g a S) [(0, .ref (a 50)), (1, .int v1), (2, .int v2), (3, .int w3)] [] 2) (hK : K → St x 0 0 (mW g a S) [] [] 26) (h : fX6_breakingIn_2b N S v1 v2 v3 R K Q) : St x 0 0 (mW g a S) [(0, .ref (a 50)), (1, .int v1), (2, .int v2), (3, .int v3)] [] 2 := by
  unfold fX6_breakingIn_2b at h
  refine r_iload_n C dX6_breakingIn_2 rfl ?_
  refine r_bipush (v := 8) C dX6_breakingIn_3 (by decide) ?_
  refine r_icmp_ge (tgt := 26) C dX6_breakingIn_5 (by decide) (fun c1 => ?_) (fun c1 => ?_)
  · have h := h.1 c1
    refine r_sub [] (lv' := []) rfl ?_
    exact hK h
  · have h := h.2 c1
    refine r_aload_n C dX6_breakingIn_8 rfl ?_
    refine r_iload_n C dX6_breakingIn_9 rfl ?_
    refine r_iload_n C dX6_breakingIn_10 rfl ?_
    refine r_iload_n C dX6_breakingIn_11 rfl ?_
    refine callR_I C (run_V (As := [.int v1, .int v3, .int v2]) (rest := []) (ci := 6) C hZ.2.2 (tX6_breaks _ g a S N v1 v3 v2 _ h) gX6_breakingIn_X6_breaks rfl dsX6_breaks rfl rfl ⟨(Nat.le_of_ble_eq_true rfl), (Nat.le_of_ble_eq_true rfl)⟩ rfl (List.mem_of_getElem? (i := 0) rfl) rfl (Nat.le_of_ble_eq_true rfl) dX6_breakingIn_12 ⟨Nat.zero_le _, Nat.zero_le _⟩) (List.Sublist.refl _) (fun _ => rfl) (fun r2 _ h => ?_)
    refine r_if_eq (tgt := 20) C dX6_breakingIn_15 (by decide) (fun c3 => ?_) (fun c3 => ?_)
    · have h := h.1 c3
      obtain ⟨x4, ex4⟩ : ∃ z : Int32, z = v3 + 1 := ⟨_, rfl⟩
      have h := h x4 ex4
      refine r_iinc (v := x4) (lv' := [(0, .ref (a 50)), (1, .int v1), (2, .int v2), (3, .int x4)]) C dX6_breakingIn_20 rfl (by rw [ex4]; rfl) [some 0, some 1, some 2, none] (by decide) rfl rfl ?_
      refine r_goto (tgt := 2) C dX6_breakingIn_23 (by decide) ?_
      exact hR x4 h
    · have h := h.2 c3
      refine r_iload_n C dX6_breakingIn_18 rfl ?_
      exact r_iret C hZ (u := ()) h rfl dX6_breakingIn_19
def fX6_breakingIn_2 (N : Nat) (S : RS) (v1 : Int32) (v2 : Int32) (K : Prop) (Q : Int32 → Prop) : Nat → Int32 → Prop
  | 0, _ => False
  | n + 1, v3 => fX6_breakingIn_2b N S v1 v2 v3 (fun v3 => fX6_breakingIn_2 N S v1 v2 K Q n v3) K Q
set_option maxRecDepth 100000 in
set_option maxHeartbeats 4000000 in
theorem wfX6_breakingIn_2 {x : Nx} {g : Gx} {W0 : va_W} {a : Nat → Nat} {S : RS} {N : Nat} {v1 : Int32} {v2 : Int32} {K : Prop} {Q : Int32 → Prop} (C : Cx x g cX6_breakingIn RX6 wsX6_breakingIn rmX6_breakingIn yX6_breakingIn (some .int) 4) (hZ : Zq x g W0 (fun _ : Unit => mW g a S) (qI (fun (r : Int32) (_ : Unit) => Q r)) 0 0) (hK : K → St x 0 0 (mW g a S) [] [] 26) : ∀ (n : Nat) (v3 : Int32), fX6_breakingIn_2 N S v1 v2 K Q n v3 → St x 0 0 (mW g a S) [(0, .ref (a 50)), (1, .int v1), (2, .int v2), (3, .int v3)] [] 2 := by
  intro n
  induction n with
  | zero => intro v3 h; exact False.elim h
  | succ n ih => intro v3 h; exact wfX6_breakingIn_2b C hZ ih hK h
def fX6_breakingIn (N : Nat) (S : RS) (v1 : Int32) (v2 : Int32) (Q : Int32 → Prop) : Prop :=
  (fX6_breakingIn_2 N S v1 v2 (Q (-1)) Q N 0)
set_option maxRecDepth 100000 in
set_option maxHeartbeats 4000000 in
theorem tX6_breakingIn (l : Launch) (g : Gx) (a : Nat → Nat) (S : RS) (N : Nat) (v1 : Int32) (v2 : Int32) (Q : Int32 → Prop) (h : fX6_breakingIn N S v1 v2 Q) : MetG l g yX6_breakingIn wsX6_breakingIn rmX6_breakingIn [.ref (a 50), .int v1, .int v2] (mW g a S) (fun _ : Unit => mW g a S) (qI (fun (r : Int32) (_ : Unit) => Q r)) 0 0 := by
  refine met_of (cc := cX6_breakingIn) (own := RX6) (nL := 4) (ret := (some .int)) (lv := [(0, .ref (a 50)), (1, .int v1), (2, .int v2)]) (by decide) rfl rfl (Nat.le_of_ble_eq_true rfl) rfl ?_
  intro x C hl hZ
  subst hl
  unfold fX6_breakingIn at h
  refine r_iconst (v := 0) C dX6_breakingIn_0 (by decide) ?_
  refine r_istore_n (lv' := [(0, .ref (a 50)), (1, .int v1), (2, .int v2), (3, .int 0)]) C dX6_breakingIn_1 [some 0, some 1, some 2, none] (by decide) rfl rfl ?_
  refine wfX6_breakingIn_2 C hZ (fun h => ?_) N _ h
  refine r_iconst (v := (-1)) C dX6_breakingIn_26 (by decide) ?_
  exact r_iret C hZ (u := ()) h rfl dX6_breakingIn_27
