theorem kwX3_either_0 : Cond.fieldLink RX3 17 "WantsBench$Tape" "place" "I" ∈ wsX3_either := by decide +kernel
theorem uwX3_either_3 : ∀ w ∈ wsX30, w ∈ wsX3_either := by decide +kernel
def fX3_either_9b (Zboth : RS → Int32 → (Int64 → RS → Prop) → Prop) (N : Nat) (T : RS) (v1 : Int32) (v2 : Int64) (v4 : Int32) (R : Int64 → Int32 → RS → Prop) (K : Int64 → RS → Prop) (Q : Int64 → RS → Prop) : Prop :=
  ((80 ≤ v4 → K v2 T) ∧ (¬ 80 ≤ v4 → (fX3_look N T (fun r4 => ((¬ r4 = 124 → K v2 T) ∧ (r4 = 124 → (∀ T6 : RS, T6 = sI T 2 ((T.1 2) + (1 : Int32)) → (Zboth T6 v1 (fun r7 T8 => (∀ x9 : Int64, x9 = v2 ||| r7 → (∀ x10 : Int32, x10 = v4 + 1 → R x9 x10 T8)))))))))))
set_option maxRecDepth 100000 in
set_option maxHeartbeats 4000000 in
theorem wfX3_either_9b {x : Nx} {g : Gx} {W0 : va_W} {a : Nat → Nat} {T : RS} {Zboth : RS → Int32 → (Int64 → RS → Prop) → Prop} {N : Nat} {v1 : Int32} {v2 : Int64} {v4 : Int32} {R : Int64 → Int32 → RS → Prop} {K : Int64 → RS → Prop} {Q : Int64 → RS → Prop} {rm : Room} (hF : 1 ≤ rm.frames ∧ 20 ≤ rm.locals ∧ rm.cells = 0 ∧ rm.slots = 0) (C : Cx x g cX3_either RX3 wsX3_either rm yX3_either (some .long) 5) (hZ : Zq x g W0 (fun u : RS => tW g a u) (qL (fun (r : Int64) (u : RS) => Q r u)) 0 0) {rmZboth : Room} (hRZboth : rmZboth.frames + 1 ≤ rm.frames ∧ 8 + (5 + 11) + rmZboth.locals ≤ rm.locals) (hzZboth : rmZboth.cells = 0 ∧ rmZboth.slots = 0) (hZboth : ∀ (T : RS) (i0 : Int32) (Q : Int64 → RS → Prop), Zboth T i0 Q → MetG (xl x) g yX3_both wsX3_both rmZboth [.ref (a 50), .int i0] (tW g a T) (fun u : RS => tW g a u) (qL (fun (r : Int64) (u : RS) => Q r u)) 0 0) (hR : ∀ (w2 : Int64) (w4 : Int32) (T_ : RS), R w2 w4 T_ → St x 0 0 (tW g a T_) [(0, .ref (a 50)), (1, .int v1), (2, .long w2), (4, .int w4)] [] 9) (hK : ∀ (w2 : Int64) (T_ : RS), K w2 T_ → St x 0 0 (tW g a T_) [(2, .long w2)] [] 49) (h : fX3_either_9b Zboth N T v1 v2 v4 R K Q) : St x 0 0 (tW g a T) [(0, .ref (a 50)), (1, .int v1), (2, .long v2), (4, .int v4)] [] 9 := by
  unfold fX3_either_9b at h
  refine r_iload C dX3_either_9 rfl ?_
  refine r_bipush (v := 80) C dX3_either_11 (by decide) ?_
  refine r_icmp_ge (tgt := 49) C dX3_either_13 (by decide) (fun c3 => ?_) (fun c3 => ?_)
  · have h := h.1 c3
    refine r_sub [2] (lv' := [(2, .long v2)]) rfl ?_
    exact hK v2 T h
  · have h := h.2 c3
    refine r_aload_n C dX3_either_16 rfl ?_
    refine callR_I C (run_V (As := []) (rest := []) (ci := 3) C hZ.2.2 (tX3_look _ g a T N _ h) gX3_either_X3_look rfl dsX3_look rfl rfl ⟨Nat.le_trans (Nat.le_of_ble_eq_true rfl) hF.1, Nat.le_trans (Nat.le_of_ble_eq_true rfl) hF.2.1⟩ rfl (List.mem_of_getElem? (i := 0) rfl) rfl (Nat.le_of_ble_eq_true rfl) dX3_either_17 ⟨Nat.zero_le _, Nat.zero_le _⟩) (List.Sublist.refl _) (fun _ => rfl) (fun r4 _ h => ?_)
    refine r_bipush (v := 124) C dX3_either_20 (by decide) ?_
    refine r_icmp_ne (tgt := 49) C dX3_either_22 (by decide) (fun c5 => ?_) (fun c5 => ?_)
    · have h := h.1 c5
      refine r_sub [2] (lv' := [(2, .long v2)]) rfl ?_
      exact hK v2 T h
    · have h := h.2 c5
      refine r_aload_n C dX3_either_25 rfl ?_
      refine r_dup C dX3_either_26 rfl ?_
      refine r_get (cn := RX3) (T := TX3) (N := 8) (ci := 3) C uwX3_either_3 0 rfl rfl 2 (by decide) kwX3_either_0 (v := .int (T.1 2)) rfl dX3_either_27 ?_
      refine r_iconst (v := 1) C dX3_either_30 (by decide) ?_
      refine r_iadd C dX3_either_31 ?_
      obtain ⟨T6, hT6⟩ : ∃ z : RS, z = sI T 2 ((T.1 2) + (1 : Int32)) := ⟨_, rfl⟩
      have h := h T6 hT6
      refine r_put (cn := RX3) (T := TX3) (N := 8) (ci := 3) (ws' := tW g a T6) C uwX3_either_3 tyX3 tyX3_ok nmX3 0 rfl rfl 2 (by decide) kwX3_either_0 rfl rfl rfl (Nat.le_of_ble_eq_true rfl) dX3_either_32 (by rw [hT6]; rfl) ?_
      refine r_lload_n C dX3_either_35 rfl ?_
      refine r_aload_n C dX3_either_36 rfl ?_
      refine r_iload_n C dX3_either_37 rfl ?_
      refine callW_L C (run_V (As := [.int v1]) (rest := [.long v2]) (ci := 3) C hZ.2.2 (hZboth T6 v1 _ h) gX3_either_X3_both rfl dsX3_both hzZboth.1 hzZboth.2 hRZboth rfl (List.mem_of_getElem? (i := 0) rfl) rfl (Nat.le_of_ble_eq_true rfl) dX3_either_38 ⟨Nat.zero_le _, Nat.zero_le _⟩) (fun r7 T8 h => ?_)
      show St x 0 0 (tW g a T8) _ _ 41
      refine r_lor C dX3_either_41 ?_
      refine r_topl (fun x9 ex9 => ?_)
      have h := h x9 ex9
      refine r_lstore_n (lv' := [(0, .ref (a 50)), (1, .int v1), (2, .long x9), (4, .int v4)]) C dX3_either_42 [some 0, some 1, none, some 3] (by decide) rfl rfl ?_
      obtain ⟨x10, ex10⟩ : ∃ z : Int32, z = v4 + 1 := ⟨_, rfl⟩
      have h := h x10 ex10
      refine r_iinc (v := x10) (lv' := [(0, .ref (a 50)), (1, .int v1), (2, .long x9), (4, .int x10)]) C dX3_either_43 rfl (by rw [ex10]; rfl) [some 0, some 1, some 2, none] (by decide) rfl rfl ?_
      refine r_goto (tgt := 9) C dX3_either_46 (by decide) ?_
      exact hR x9 x10 T8 h
def fX3_either_9 (Zboth : RS → Int32 → (Int64 → RS → Prop) → Prop) (N : Nat) (v1 : Int32) (K : Int64 → RS → Prop) (Q : Int64 → RS → Prop) : Nat → Int64 → Int32 → RS → Prop
  | 0, _, _, _ => False
  | n + 1, v2, v4, T => fX3_either_9b Zboth N T v1 v2 v4 (fun v2 v4 T => fX3_either_9 Zboth N v1 K Q n v2 v4 T) K Q
set_option maxRecDepth 100000 in
set_option maxHeartbeats 4000000 in
theorem wfX3_either_9 {x : Nx} {g : Gx} {W0 : va_W} {a : Nat → Nat}  {Zboth : RS → Int32 → (Int64 → RS → Prop) → Prop} {N : Nat} {v1 : Int32} {K : Int64 → RS → Prop} {Q : Int64 → RS → Prop} {rm : Room} (hF : 1 ≤ rm.frames ∧ 20 ≤ rm.locals ∧ rm.cells = 0 ∧ rm.slots = 0) (C : Cx x g cX3_either RX3 wsX3_either rm yX3_either (some .long) 5) (hZ : Zq x g W0 (fun u : RS => tW g a u) (qL (fun (r : Int64) (u : RS) => Q r u)) 0 0) {rmZboth : Room} (hRZboth : rmZboth.frames + 1 ≤ rm.frames ∧ 8 + (5 + 11) + rmZboth.locals ≤ rm.locals) (hzZboth : rmZboth.cells = 0 ∧ rmZboth.slots = 0) (hZboth : ∀ (T : RS) (i0 : Int32) (Q : Int64 → RS → Prop), Zboth T i0 Q → MetG (xl x) g yX3_both wsX3_both rmZboth [.ref (a 50), .int i0] (tW g a T) (fun u : RS => tW g a u) (qL (fun (r : Int64) (u : RS) => Q r u)) 0 0) (hK : ∀ (w2 : Int64) (T_ : RS), K w2 T_ → St x 0 0 (tW g a T_) [(2, .long w2)] [] 49) : ∀ (n : Nat) (v2 : Int64) (v4 : Int32) (T : RS), fX3_either_9 Zboth N v1 K Q n v2 v4 T → St x 0 0 (tW g a T) [(0, .ref (a 50)), (1, .int v1), (2, .long v2), (4, .int v4)] [] 9 := by
  intro n
  induction n with
  | zero => intro v2 v4 T h; exact False.elim h
  | succ n ih => intro v2 v4 T h; exact wfX3_either_9b hF C hZ hRZboth hzZboth hZboth ih hK h
def bX3_either (Zboth : RS → Int32 → (Int64 → RS → Prop) → Prop) (N : Nat) (T : RS) (v1 : Int32) (Q : Int64 → RS → Prop) : Prop :=
  (Zboth T v1 (fun r1 T2 => (fX3_either_9 Zboth N v1 (fun x11 T12 => Q x11 T12) Q N r1 0 T2)))
set_option maxRecDepth 100000 in
set_option maxHeartbeats 4000000 in
theorem tbX3_either (l : Launch) (g : Gx) (a : Nat → Nat) (T : RS) {Zboth : RS → Int32 → (Int64 → RS → Prop) → Prop} (N : Nat) (v1 : Int32) (Q : Int64 → RS → Prop) {rm : Room} (hF : 1 ≤ rm.frames ∧ 20 ≤ rm.locals ∧ rm.cells = 0 ∧ rm.slots = 0) {rmZboth : Room} (hRZboth : rmZboth.frames + 1 ≤ rm.frames ∧ 8 + (5 + 11) + rmZboth.locals ≤ rm.locals) (hzZboth : rmZboth.cells = 0 ∧ rmZboth.slots = 0) (hZboth : ∀ (T : RS) (i0 : Int32) (Q : Int64 → RS → Prop), Zboth T i0 Q → MetG l g yX3_both wsX3_both rmZboth [.ref (a 50), .int i0] (tW g a T) (fun u : RS => tW g a u) (qL (fun (r : Int64) (u : RS) => Q r u)) 0 0) (h : bX3_either Zboth N T v1 Q) : MetG l g yX3_either wsX3_either rm [.ref (a 50), .int v1] (tW g a T) (fun u : RS => tW g a u) (qL (fun (r : Int64) (u : RS) => Q r u)) 0 0 := by
  refine met_of (cc := cX3_either) (own := RX3) (nL := 5) (ret := (some .long)) (lv := [(0, .ref (a 50)), (1, .int v1)]) (by decide) rfl rfl (Nat.le_of_ble_eq_true rfl) rfl ?_
  intro x C hl hZ
  subst hl
  unfold bX3_either at h
  refine r_aload_n C dX3_either_0 rfl ?_
  refine r_iload_n C dX3_either_1 rfl ?_
  refine callW_L C (run_V (As := [.int v1]) (rest := []) (ci := 3) C hZ.2.2 (hZboth T v1 _ h) gX3_either_X3_both rfl dsX3_both hzZboth.1 hzZboth.2 hRZboth rfl (List.mem_of_getElem? (i := 0) rfl) rfl (Nat.le_of_ble_eq_true rfl) dX3_either_2 ⟨Nat.zero_le _, Nat.zero_le _⟩) (fun r1 T2 h => ?_)
  show St x 0 0 (tW g a T2) _ _ 5
  refine r_lstore_n (lv' := [(0, .ref (a 50)), (1, .int v1), (2, .long r1)]) C dX3_either_5 [some 0, some 1, none] (by decide) rfl rfl ?_
  refine r_iconst (v := 0) C dX3_either_6 (by decide) ?_
  refine r_istore (lv' := [(0, .ref (a 50)), (1, .int v1), (2, .long r1), (4, .int 0)]) C dX3_either_7 [some 0, some 1, some 2, none] (by decide) rfl rfl ?_
  refine wfX3_either_9 hF C hZ hRZboth hzZboth hZboth (fun x11 T12 h => ?_) N _ _ _ h
  refine r_lload_n C dX3_either_49 rfl ?_
  exact r_lret C hZ (u := T12) h rfl dX3_either_50
theorem kwX3_both_0 : Cond.fieldLink RX3 17 "WantsBench$Tape" "place" "I" ∈ wsX3_both := by decide +kernel
theorem uwX3_both_3 : ∀ w ∈ wsX30, w ∈ wsX3_both := by decide +kernel
def fX3_both_9b (Zsingle : RS → Int32 → (Int64 → RS → Prop) → Prop) (N : Nat) (T : RS) (v1 : Int32) (v2 : Int64) (v4 : Int32) (R : Int64 → Int32 → RS → Prop) (K : Int64 → RS → Prop) (Q : Int64 → RS → Prop) : Prop :=
  ((80 ≤ v4 → K v2 T) ∧ (¬ 80 ≤ v4 → (fX3_look N T (fun r4 => ((¬ r4 = 38 → K v2 T) ∧ (r4 = 38 → (∀ T6 : RS, T6 = sI T 2 ((T.1 2) + (1 : Int32)) → (Zsingle T6 v1 (fun r7 T8 => (∀ x9 : Int64, x9 = v2 &&& r7 → (∀ x10 : Int32, x10 = v4 + 1 → R x9 x10 T8)))))))))))
set_option maxRecDepth 100000 in
set_option maxHeartbeats 4000000 in
theorem wfX3_both_9b {x : Nx} {g : Gx} {W0 : va_W} {a : Nat → Nat} {T : RS} {Zsingle : RS → Int32 → (Int64 → RS → Prop) → Prop} {N : Nat} {v1 : Int32} {v2 : Int64} {v4 : Int32} {R : Int64 → Int32 → RS → Prop} {K : Int64 → RS → Prop} {Q : Int64 → RS → Prop} {rm : Room} (hF : 1 ≤ rm.frames ∧ 20 ≤ rm.locals ∧ rm.cells = 0 ∧ rm.slots = 0) (C : Cx x g cX3_both RX3 wsX3_both rm yX3_both (some .long) 5) (hZ : Zq x g W0 (fun u : RS => tW g a u) (qL (fun (r : Int64) (u : RS) => Q r u)) 0 0) {rmZsingle : Room} (hRZsingle : rmZsingle.frames + 1 ≤ rm.frames ∧ 8 + (2 + 11) + rmZsingle.locals ≤ rm.locals) (hzZsingle : rmZsingle.cells = 0 ∧ rmZsingle.slots = 0) (hZsingle : ∀ (T : RS) (i0 : Int32) (Q : Int64 → RS → Prop), Zsingle T i0 Q → MetG (xl x) g yX3_single wsX3_single rmZsingle [.ref (a 50), .int i0] (tW g a T) (fun u : RS => tW g a u) (qL (fun (r : Int64) (u : RS) => Q r u)) 0 0) (hR : ∀ (w2 : Int64) (w4 : Int32) (T_ : RS), R w2 w4 T_ → St x 0 0 (tW g a T_) [(0, .ref (a 50)), (1, .int v1), (2, .long w2), (4, .int w4)] [] 9) (hK : ∀ (w2 : Int64) (T_ : RS), K w2 T_ → St x 0 0 (tW g a T_) [(2, .long w2)] [] 49) (h : fX3_both_9b Zsingle N T v1 v2 v4 R K Q) : St x 0 0 (tW g a T) [(0, .ref (a 50)), (1, .int v1), (2, .long v2), (4, .int v4)] [] 9 := by
  unfold fX3_both_9b at h
  refine r_iload C dX3_both_9 rfl ?_
  refine r_bipush (v := 80) C dX3_both_11 (by decide) ?_
  refine r_icmp_ge (tgt := 49) C dX3_both_13 (by decide) (fun c3 => ?_) (fun c3 => ?_)
  · have h := h.1 c3
    refine r_sub [2] (lv' := [(2, .long v2)]) rfl ?_
    exact hK v2 T h
  · have h := h.2 c3
    refine r_aload_n C dX3_both_16 rfl ?_
    refine callR_I C (run_V (As := []) (rest := []) (ci := 3) C hZ.2.2 (tX3_look _ g a T N _ h) gX3_both_X3_look rfl dsX3_look rfl rfl ⟨Nat.le_trans (Nat.le_of_ble_eq_true rfl) hF.1, Nat.le_trans (Nat.le_of_ble_eq_true rfl) hF.2.1⟩ rfl (List.mem_of_getElem? (i := 0) rfl) rfl (Nat.le_of_ble_eq_true rfl) dX3_both_17 ⟨Nat.zero_le _, Nat.zero_le _⟩) (List.Sublist.refl _) (fun _ => rfl) (fun r4 _ h => ?_)
    refine r_bipush (v := 38) C dX3_both_20 (by decide) ?_
    refine r_icmp_ne (tgt := 49) C dX3_both_22 (by decide) (fun c5 => ?_) (fun c5 => ?_)
    · have h := h.1 c5
      refine r_sub [2] (lv' := [(2, .long v2)]) rfl ?_
      exact hK v2 T h
    · have h := h.2 c5
      refine r_aload_n C dX3_both_25 rfl ?_
      refine r_dup C dX3_both_26 rfl ?_
      refine r_get (cn := RX3) (T := TX3) (N := 8) (ci := 3) C uwX3_both_3 0 rfl rfl 2 (by decide) kwX3_both_0 (v := .int (T.1 2)) rfl dX3_both_27 ?_
      refine r_iconst (v := 1) C dX3_both_30 (by decide) ?_
      refine r_iadd C dX3_both_31 ?_
      obtain ⟨T6, hT6⟩ : ∃ z : RS, z = sI T 2 ((T.1 2) + (1 : Int32)) := ⟨_, rfl⟩
      have h := h T6 hT6
      refine r_put (cn := RX3) (T := TX3) (N := 8) (ci := 3) (ws' := tW g a T6) C uwX3_both_3 tyX3 tyX3_ok nmX3 0 rfl rfl 2 (by decide) kwX3_both_0 rfl rfl rfl (Nat.le_of_ble_eq_true rfl) dX3_both_32 (by rw [hT6]; rfl) ?_
      refine r_lload_n C dX3_both_35 rfl ?_
      refine r_aload_n C dX3_both_36 rfl ?_
      refine r_iload_n C dX3_both_37 rfl ?_
      refine callW_L C (run_V (As := [.int v1]) (rest := [.long v2]) (ci := 3) C hZ.2.2 (hZsingle T6 v1 _ h) gX3_both_X3_single rfl dsX3_single hzZsingle.1 hzZsingle.2 hRZsingle rfl (List.mem_of_getElem? (i := 0) rfl) rfl (Nat.le_of_ble_eq_true rfl) dX3_both_38 ⟨Nat.zero_le _, Nat.zero_le _⟩) (fun r7 T8 h => ?_)
      show St x 0 0 (tW g a T8) _ _ 41
      refine r_land C dX3_both_41 ?_
      refine r_topl (fun x9 ex9 => ?_)
      have h := h x9 ex9
      refine r_lstore_n (lv' := [(0, .ref (a 50)), (1, .int v1), (2, .long x9), (4, .int v4)]) C dX3_both_42 [some 0, some 1, none, some 3] (by decide) rfl rfl ?_
      obtain ⟨x10, ex10⟩ : ∃ z : Int32, z = v4 + 1 := ⟨_, rfl⟩
      have h := h x10 ex10
      refine r_iinc (v := x10) (lv' := [(0, .ref (a 50)), (1, .int v1), (2, .long x9), (4, .int x10)]) C dX3_both_43 rfl (by rw [ex10]; rfl) [some 0, some 1, some 2, none] (by decide) rfl rfl ?_
      refine r_goto (tgt := 9) C dX3_both_46 (by decide) ?_
      exact hR x9 x10 T8 h
def fX3_both_9 (Zsingle : RS → Int32 → (Int64 → RS → Prop) → Prop) (N : Nat) (v1 : Int32) (K : Int64 → RS → Prop) (Q : Int64 → RS → Prop) : Nat → Int64 → Int32 → RS → Prop
  | 0, _, _, _ => False
  | n + 1, v2, v4, T => fX3_both_9b Zsingle N T v1 v2 v4 (fun v2 v4 T => fX3_both_9 Zsingle N v1 K Q n v2 v4 T) K Q
set_option maxRecDepth 100000 in
set_option maxHeartbeats 4000000 in
theorem wfX3_both_9 {x : Nx} {g : Gx} {W0 : va_W} {a : Nat → Nat}  {Zsingle : RS → Int32 → (Int64 → RS → Prop) → Prop} {N : Nat} {v1 : Int32} {K : Int64 → RS → Prop} {Q : Int64 → RS → Prop} {rm : Room} (hF : 1 ≤ rm.frames ∧ 20 ≤ rm.locals ∧ rm.cells = 0 ∧ rm.slots = 0) (C : Cx x g cX3_both RX3 wsX3_both rm yX3_both (some .long) 5) (hZ : Zq x g W0 (fun u : RS => tW g a u) (qL (fun (r : Int64) (u : RS) => Q r u)) 0 0) {rmZsingle : Room} (hRZsingle : rmZsingle.frames + 1 ≤ rm.frames ∧ 8 + (2 + 11) + rmZsingle.locals ≤ rm.locals) (hzZsingle : rmZsingle.cells = 0 ∧ rmZsingle.slots = 0) (hZsingle : ∀ (T : RS) (i0 : Int32) (Q : Int64 → RS → Prop), Zsingle T i0 Q → MetG (xl x) g yX3_single wsX3_single rmZsingle [.ref (a 50), .int i0] (tW g a T) (fun u : RS => tW g a u) (qL (fun (r : Int64) (u : RS) => Q r u)) 0 0) (hK : ∀ (w2 : Int64) (T_ : RS), K w2 T_ → St x 0 0 (tW g a T_) [(2, .long w2)] [] 49) : ∀ (n : Nat) (v2 : Int64) (v4 : Int32) (T : RS), fX3_both_9 Zsingle N v1 K Q n v2 v4 T → St x 0 0 (tW g a T) [(0, .ref (a 50)), (1, .int v1), (2, .long v2), (4, .int v4)] [] 9 := by
  intro n
  induction n with
  | zero => intro v2 v4 T h; exact False.elim h
  | succ n ih => intro v2 v4 T h; exact wfX3_both_9b hF C hZ hRZsingle hzZsingle hZsingle ih hK h
def bX3_both (Zsingle : RS → Int32 → (Int64 → RS → Prop) → Prop) (N : Nat) (T : RS) (v1 : Int32) (Q : Int64 → RS → Prop) : Prop :=
  (Zsingle T v1 (fun r1 T2 => (fX3_both_9 Zsingle N v1 (fun x11 T12 => Q x11 T12) Q N r1 0 T2)))
set_option maxRecDepth 100000 in
set_option maxHeartbeats 4000000 in
theorem tbX3_both (l : Launch) (g : Gx) (a : Nat → Nat) (T : RS) {Zsingle : RS → Int32 → (Int64 → RS → Prop) → Prop} (N : Nat) (v1 : Int32) (Q : Int64 → RS → Prop) {rm : Room} (hF : 1 ≤ rm.frames ∧ 20 ≤ rm.locals ∧ rm.cells = 0 ∧ rm.slots = 0) {rmZsingle : Room} (hRZsingle : rmZsingle.frames + 1 ≤ rm.frames ∧ 8 + (2 + 11) + rmZsingle.locals ≤ rm.locals) (hzZsingle : rmZsingle.cells = 0 ∧ rmZsingle.slots = 0) (hZsingle : ∀ (T : RS) (i0 : Int32) (Q : Int64 → RS → Prop), Zsingle T i0 Q → MetG l g yX3_single wsX3_single rmZsingle [.ref (a 50), .int i0] (tW g a T) (fun u : RS => tW g a u) (qL (fun (r : Int64) (u : RS) => Q r u)) 0 0) (h : bX3_both Zsingle N T v1 Q) : MetG l g yX3_both wsX3_both rm [.ref (a 50), .int v1] (tW g a T) (fun u : RS => tW g a u) (qL (fun (r : Int64) (u : RS) => Q r u)) 0 0 := by
  refine met_of (cc := cX3_both) (own := RX3) (nL := 5) (ret := (some .long)) (lv := [(0, .ref (a 50)), (1, .int v1)]) (by decide) rfl rfl (Nat.le_of_ble_eq_true rfl) rfl ?_
  intro x C hl hZ
  subst hl
  unfold bX3_both at h
  refine r_aload_n C dX3_both_0 rfl ?_
  refine r_iload_n C dX3_both_1 rfl ?_
  refine callW_L C (run_V (As := [.int v1]) (rest := []) (ci := 3) C hZ.2.2 (hZsingle T v1 _ h) gX3_both_X3_single rfl dsX3_single hzZsingle.1 hzZsingle.2 hRZsingle rfl (List.mem_of_getElem? (i := 0) rfl) rfl (Nat.le_of_ble_eq_true rfl) dX3_both_2 ⟨Nat.zero_le _, Nat.zero_le _⟩) (fun r1 T2 h => ?_)
  show St x 0 0 (tW g a T2) _ _ 5
  refine r_lstore_n (lv' := [(0, .ref (a 50)), (1, .int v1), (2, .long r1)]) C dX3_both_5 [some 0, some 1, none] (by decide) rfl rfl ?_
  refine r_iconst (v := 0) C dX3_both_6 (by decide) ?_
  refine r_istore (lv' := [(0, .ref (a 50)), (1, .int v1), (2, .long r1), (4, .int 0)]) C dX3_both_7 [some 0, some 1, some 2, none] (by decide) rfl rfl ?_
  refine wfX3_both_9 hF C hZ hRZsingle hzZsingle hZsingle (fun x11 T12 h => ?_) N _ _ _ h
  refine r_lload_n C dX3_both_49 rfl ?_
  exact r_lret C hZ (u := T12) h rfl dX3_both_50
theorem kwX3_single_0 : Cond.constantLong RX3 72 (-1) ∈ wsX3_single := by decide +kernel
theorem kwX3_single_1 : Cond.constantLong RX3 74 (-71777214294589696) ∈ wsX3_single := by decide +kernel
theorem kwX3_single_2 : Cond.constantLong RX3 76 (-281470681808896) ∈ wsX3_single := by decide +kernel
theorem kwX3_single_3 : Cond.constantLong RX3 78 (-4294967296) ∈ wsX3_single := by decide +kernel
theorem kwX3_single_4 : Cond.constantLong RX3 80 (-6148914691236517206) ∈ wsX3_single := by decide +kernel
theorem kwX3_single_5 : Cond.constantLong RX3 82 (-3689348814741910324) ∈ wsX3_single := by decide +kernel
theorem kwX3_single_6 : Cond.constantLong RX3 84 (-1085102592571150096) ∈ wsX3_single := by decide +kernel
def bX3_single (Zdenied : RS → Int32 → (Int64 → RS → Prop) → Prop) (Zbracketed : RS → Int32 → (Int64 → RS → Prop) → Prop) (N : Nat) (T : RS) (v1 : Int32) (Q : Int64 → RS → Prop) : Prop :=
  (fX3_look N T (fun r1 => ((r1 = 40 → ((10 ≤ v1 → (fX3_miss N T (fun r3 T4 => Q r3 T4))) ∧ (¬ 10 ≤ v1 → (Zbracketed T (v1 + (1 : Int32)) (fun r5 T6 => Q r5 T6))))) ∧ (r1 = 48 → (fX3_sign N T 0 (fun r8 T9 => Q r8 T9))) ∧ (r1 = 49 → (fX3_sign N T (-1) (fun r11 T12 => Q r11 T12))) ∧ (r1 = 97 → (fX3_sign N T (-71777214294589696) (fun r14 T15 => Q r14 T15))) ∧ (r1 = 98 → (fX3_sign N T (-281470681808896) (fun r17 T18 => Q r17 T18))) ∧ (r1 = 99 → (fX3_sign N T (-4294967296) (fun r20 T21 => Q r20 T21))) ∧ (r1 = 120 → (fX3_sign N T (-6148914691236517206) (fun r23 T24 => Q r23 T24))) ∧ (r1 = 121 → (fX3_sign N T (-3689348814741910324) (fun r26 T27 => Q r26 T27))) ∧ (r1 = 122 → (fX3_sign N T (-1085102592571150096) (fun r29 T30 => Q r29 T30))) ∧ (r1 = 126 → ((10 ≤ v1 → (fX3_miss N T (fun r33 T34 => Q r33 T34))) ∧ (¬ 10 ≤ v1 → (Zdenied T (v1 + (1 : Int32)) (fun r35 T36 => Q r35 T36))))) ∧ ((¬ r1 = 40 ∧ ¬ r1 = 48 ∧ ¬ r1 = 49 ∧ ¬ r1 = 97 ∧ ¬ r1 = 98 ∧ ¬ r1 = 99 ∧ ¬ r1 = 120 ∧ ¬ r1 = 121 ∧ ¬ r1 = 122 ∧ ¬ r1 = 126) → (fX3_miss N T (fun r38 T39 => Q r38 T39))))))
set_option maxRecDepth 100000 in
set_option maxHeartbeats 4000000 in
theorem tbX3_single (l : Launch) (g : Gx) (a : Nat → Nat) (T : RS) {Zdenied : RS → Int32 → (Int64 → RS → Prop) → Prop} {Zbracketed : RS → Int32 → (Int64 → RS → Prop) → Prop} (N : Nat) (v1 : Int32) (Q : Int64 → RS → Prop) {rm : Room} (hF : 1 ≤ rm.frames ∧ 22 ≤ rm.locals ∧ rm.cells = 0 ∧ rm.slots = 0) {rmZdenied : Room} (hRZdenied : rmZdenied.frames + 1 ≤ rm.frames ∧ 8 + (2 + 11) + rmZdenied.locals ≤ rm.locals) (hzZdenied : rmZdenied.cells = 0 ∧ rmZdenied.slots = 0) (hZdenied : ∀ (T : RS) (i0 : Int32) (Q : Int64 → RS → Prop), Zdenied T i0 Q → MetG l g yX3_denied wsX3_denied rmZdenied [.ref (a 50), .int i0] (tW g a T) (fun u : RS => tW g a u) (qL (fun (r : Int64) (u : RS) => Q r u)) 0 0) {rmZbracketed : Room} (hRZbracketed : rmZbracketed.frames + 1 ≤ rm.frames ∧ 8 + (4 + 11) + rmZbracketed.locals ≤ rm.locals) (hzZbracketed : rmZbracketed.cells = 0 ∧ rmZbracketed.slots = 0) (hZbracketed : ∀ (T : RS) (i0 : Int32) (Q : Int64 → RS → Prop), Zbracketed T i0 Q → MetG l g yX3_bracketed wsX3_bracketed rmZbracketed [.ref (a 50), .int i0] (tW g a T) (fun u : RS => tW g a u) (qL (fun (r : Int64) (u : RS) => Q r u)) 0 0) (h : bX3_single Zdenied Zbracketed N T v1 Q) : MetG l g yX3_single wsX3_single rm [.ref (a 50), .int v1] (tW g a T) (fun u : RS => tW g a u) (qL (fun (r : Int64) (u : RS) => Q r u)) 0 0 := by
  refine met_of (cc := cX3_single) (own := RX3) (nL := 2) (ret := (some .long)) (lv := [(0, .ref (a 50)), (1, .int v1)]) (by decide) rfl rfl (Nat.le_of_ble_eq_true rfl) rfl ?_
  intro x C hl hZ
  subst hl
  unfold bX3_single at h
  refine r_aload_n C dX3_single_0 rfl ?_
  refine callR_I C (run_V (As := []) (rest := []) (ci := 3) C hZ.2.2 (tX3_look _ g a T N _ h) gX3_single_X3_look rfl dsX3_look rfl rfl ⟨Nat.le_trans (Nat.le_of_ble_eq_true rfl) hF.1, Nat.le_trans (Nat.le_of_ble_eq_true rfl) hF.2.1⟩ rfl (List.mem_of_getElem? (i := 0) rfl) rfl (Nat.le_of_ble_eq_true rfl) dX3_single_1 ⟨Nat.zero_le _, Nat.zero_le _⟩) (List.Sublist.refl _) (fun _ => rfl) (fun r1 _ h => ?_)
  by_cases c7 : r1 = 40
  · have h := h.1 c7
    rw [c7]
    refine r_lookup (tgt := 117) C dX3_single_4 (by decide) (off := 113) (by decide) (by decide) ?_
    refine r_iload_n C dX3_single_117 rfl ?_
    refine r_bipush (v := 10) C dX3_single_118 (by decide) ?_
    refine r_icmp_ge (tgt := 133) C dX3_single_120 (by decide) (fun c2 => ?_) (fun c2 => ?_)
    · have h := h.1 c2
      refine r_aload_n C dX3_single_133 rfl ?_
      refine callW_L C (run_V (As := []) (rest := []) (ci := 3) C hZ.2.2 (tX3_miss _ g a T N _ h) gX3_single_X3_miss rfl dsX3_miss rfl rfl ⟨Nat.le_trans (Nat.le_of_ble_eq_true rfl) hF.1, Nat.le_trans (Nat.le_of_ble_eq_true rfl) hF.2.1⟩ rfl (List.mem_of_getElem? (i := 0) rfl) rfl (Nat.le_of_ble_eq_true rfl) dX3_single_134 ⟨Nat.zero_le _, Nat.zero_le _⟩) (fun r3 T4 h => ?_)
      show St x 0 0 (tW g a T4) _ _ 137
      exact r_lret C hZ (u := T4) h rfl dX3_single_137
    · have h := h.2 c2
      refine r_aload_n C dX3_single_123 rfl ?_
      refine r_iload_n C dX3_single_124 rfl ?_
      refine r_iconst (v := 1) C dX3_single_125 (by decide) ?_
      refine r_iadd C dX3_single_126 ?_
      refine callW_L C (run_V (As := [.int (v1 + (1 : Int32))]) (rest := []) (ci := 3) C hZ.2.2 (hZbracketed T (v1 + (1 : Int32)) _ h) gX3_single_X3_bracketed rfl dsX3_bracketed hzZbracketed.1 hzZbracketed.2 hRZbracketed rfl (List.mem_of_getElem? (i := 0) rfl) rfl (Nat.le_of_ble_eq_true rfl) dX3_single_127 ⟨Nat.zero_le _, Nat.zero_le _⟩) (fun r5 T6 h => ?_)
      show St x 0 0 (tW g a T6) _ _ 130
      refine r_goto (tgt := 137) C dX3_single_130 (by decide) ?_
      exact r_lret C hZ (u := T6) h rfl dX3_single_137
  by_cases c10 : r1 = 48
  · have h := h.2.1 c10
    rw [c10]
    refine r_lookup (tgt := 138) C dX3_single_4 (by decide) (off := 134) (by decide) (by decide) ?_
    refine r_aload_n C dX3_single_138 rfl ?_
    refine r_lconst (v := 0) C dX3_single_139 (by decide) ?_
    refine callW_L C (run_V (As := [.long 0]) (rest := []) (ci := 3) C hZ.2.2 (tX3_sign _ g a T N 0 _ h) gX3_single_X3_sign rfl dsX3_sign rfl rfl ⟨Nat.le_trans (Nat.le_of_ble_eq_true rfl) hF.1, Nat.le_trans (Nat.le_of_ble_eq_true rfl) hF.2.1⟩ rfl (List.mem_of_getElem? (i := 0) rfl) rfl (Nat.le_of_ble_eq_true rfl) dX3_single_140 ⟨Nat.zero_le _, Nat.zero_le _⟩) (fun r8 T9 h => ?_)
    show St x 0 0 (tW g a T9) _ _ 143
    exact r_lret C hZ (u := T9) h rfl dX3_single_143
  by_cases c13 : r1 = 49
  · have h := h.2.2.1 c13
    rw [c13]
    refine r_lookup (tgt := 144) C dX3_single_4 (by decide) (off := 140) (by decide) (by decide) ?_
    refine r_aload_n C dX3_single_144 rfl ?_
    refine r_ldc2 C kwX3_single_0 dX3_single_145 ?_
    refine callW_L C (run_V (As := [.long (-1)]) (rest := []) (ci := 3) C hZ.2.2 (tX3_sign _ g a T N (-1) _ h) gX3_single_X3_sign rfl dsX3_sign rfl rfl ⟨Nat.le_trans (Nat.le_of_ble_eq_true rfl) hF.1, Nat.le_trans (Nat.le_of_ble_eq_true rfl) hF.2.1⟩ rfl (List.mem_of_getElem? (i := 0) rfl) rfl (Nat.le_of_ble_eq_true rfl) dX3_single_148 ⟨Nat.zero_le _, Nat.zero_le _⟩) (fun r11 T12 h => ?_)
    show St x 0 0 (tW g a T12) _ _ 151
    exact r_lret C hZ (u := T12) h rfl dX3_single_151
  by_cases c16 : r1 = 97
  · have h := h.2.2.2.1 c16
    rw [c16]
    refine r_lookup (tgt := 152) C dX3_single_4 (by decide) (off := 148) (by decide) (by decide) ?_
    refine r_aload_n C dX3_single_152 rfl ?_
    refine r_ldc2 C kwX3_single_1 dX3_single_153 ?_
    refine callW_L C (run_V (As := [.long (-71777214294589696)]) (rest := []) (ci := 3) C hZ.2.2 (tX3_sign _ g a T N (-71777214294589696) _ h) gX3_single_X3_sign rfl dsX3_sign rfl rfl ⟨Nat.le_trans (Nat.le_of_ble_eq_true rfl) hF.1, Nat.le_trans (Nat.le_of_ble_eq_true rfl) hF.2.1⟩ rfl (List.mem_of_getElem? (i := 0) rfl) rfl (Nat.le_of_ble_eq_true rfl) dX3_single_156 ⟨Nat.zero_le _, Nat.zero_le _⟩) (fun r14 T15 h => ?_)
    show St x 0 0 (tW g a T15) _ _ 159
    exact r_lret C hZ (u := T15) h rfl dX3_single_159
  by_cases c19 : r1 = 98
  · have h := h.2.2.2.2.1 c19
    rw [c19]
    refine r_lookup (tgt := 160) C dX3_single_4 (by decide) (off := 156) (by decide) (by decide) ?_
    refine r_aload_n C dX3_single_160 rfl ?_
    refine r_ldc2 C kwX3_single_2 dX3_single_161 ?_
    refine callW_L C (run_V (As := [.long (-281470681808896)]) (rest := []) (ci := 3) C hZ.2.2 (tX3_sign _ g a T N (-281470681808896) _ h) gX3_single_X3_sign rfl dsX3_sign rfl rfl ⟨Nat.le_trans (Nat.le_of_ble_eq_true rfl) hF.1, Nat.le_trans (Nat.le_of_ble_eq_true rfl) hF.2.1⟩ rfl (List.mem_of_getElem? (i := 0) rfl) rfl (Nat.le_of_ble_eq_true rfl) dX3_single_164 ⟨Nat.zero_le _, Nat.zero_le _⟩) (fun r17 T18 h => ?_)
    show St x 0 0 (tW g a T18) _ _ 167
    exact r_lret C hZ (u := T18) h rfl dX3_single_167
  by_cases c22 : r1 = 99
  · have h := h.2.2.2.2.2.1 c22
    rw [c22]
    refine r_lookup (tgt := 168) C dX3_single_4 (by decide) (off := 164) (by decide) (by decide) ?_
    refine r_aload_n C dX3_single_168 rfl ?_
    refine r_ldc2 C kwX3_single_3 dX3_single_169 ?_
    refine callW_L C (run_V (As := [.long (-4294967296)]) (rest := []) (ci := 3) C hZ.2.2 (tX3_sign _ g a T N (-4294967296) _ h) gX3_single_X3_sign rfl dsX3_sign rfl rfl ⟨Nat.le_trans (Nat.le_of_ble_eq_true rfl) hF.1, Nat.le_trans (Nat.le_of_ble_eq_true rfl) hF.2.1⟩ rfl (List.mem_of_getElem? (i := 0) rfl) rfl (Nat.le_of_ble_eq_true rfl) dX3_single_172 ⟨Nat.zero_le _, Nat.zero_le _⟩) (fun r20 T21 h => ?_)
    show St x 0 0 (tW g a T21) _ _ 175
    exact r_lret C hZ (u := T21) h rfl dX3_single_175
  by_cases c25 : r1 = 120
  · have h := h.2.2.2.2.2.2.1 c25
    rw [c25]
    refine r_lookup (tgt := 176) C dX3_single_4 (by decide) (off := 172) (by decide) (by decide) ?_
    refine r_aload_n C dX3_single_176 rfl ?_
    refine r_ldc2 C kwX3_single_4 dX3_single_177 ?_
    refine callW_L C (run_V (As := [.long (-6148914691236517206)]) (rest := []) (ci := 3) C hZ.2.2 (tX3_sign _ g a T N (-6148914691236517206) _ h) gX3_single_X3_sign rfl dsX3_sign rfl rfl ⟨Nat.le_trans (Nat.le_of_ble_eq_true rfl) hF.1, Nat.le_trans (Nat.le_of_ble_eq_true rfl) hF.2.1⟩ rfl (List.mem_of_getElem? (i := 0) rfl) rfl (Nat.le_of_ble_eq_true rfl) dX3_single_180 ⟨Nat.zero_le _, Nat.zero_le _⟩) (fun r23 T24 h => ?_)
    show St x 0 0 (tW g a T24) _ _ 183
    exact r_lret C hZ (u := T24) h rfl dX3_single_183
  by_cases c28 : r1 = 121
  · have h := h.2.2.2.2.2.2.2.1 c28
    rw [c28]
    refine r_lookup (tgt := 184) C dX3_single_4 (by decide) (off := 180) (by decide) (by decide) ?_
    refine r_aload_n C dX3_single_184 rfl ?_
    refine r_ldc2 C kwX3_single_5 dX3_single_185 ?_
    refine callW_L C (run_V (As := [.long (-3689348814741910324)]) (rest := []) (ci := 3) C hZ.2.2 (tX3_sign _ g a T N (-3689348814741910324) _ h) gX3_single_X3_sign rfl dsX3_sign rfl rfl ⟨Nat.le_trans (Nat.le_of_ble_eq_true rfl) hF.1, Nat.le_trans (Nat.le_of_ble_eq_true rfl) hF.2.1⟩ rfl (List.mem_of_getElem? (i := 0) rfl) rfl (Nat.le_of_ble_eq_true rfl) dX3_single_188 ⟨Nat.zero_le _, Nat.zero_le _⟩) (fun r26 T27 h => ?_)
    show St x 0 0 (tW g a T27) _ _ 191
    exact r_lret C hZ (u := T27) h rfl dX3_single_191
  by_cases c31 : r1 = 122
  · have h := h.2.2.2.2.2.2.2.2.1 c31
    rw [c31]
    refine r_lookup (tgt := 192) C dX3_single_4 (by decide) (off := 188) (by decide) (by decide) ?_
    refine r_aload_n C dX3_single_192 rfl ?_
    refine r_ldc2 C kwX3_single_6 dX3_single_193 ?_
    refine callW_L C (run_V (As := [.long (-1085102592571150096)]) (rest := []) (ci := 3) C hZ.2.2 (tX3_sign _ g a T N (-1085102592571150096) _ h) gX3_single_X3_sign rfl dsX3_sign rfl rfl ⟨Nat.le_trans (Nat.le_of_ble_eq_true rfl) hF.1, Nat.le_trans (Nat.le_of_ble_eq_true rfl) hF.2.1⟩ rfl (List.mem_of_getElem? (i := 0) rfl) rfl (Nat.le_of_ble_eq_true rfl) dX3_single_196 ⟨Nat.zero_le _, Nat.zero_le _⟩) (fun r29 T30 h => ?_)
    show St x 0 0 (tW g a T30) _ _ 199
    exact r_lret C hZ (u := T30) h rfl dX3_single_199
  by_cases c37 : r1 = 126
  · have h := h.2.2.2.2.2.2.2.2.2.1 c37
    rw [c37]
    refine r_lookup (tgt := 96) C dX3_single_4 (by decide) (off := 92) (by decide) (by decide) ?_
    refine r_iload_n C dX3_single_96 rfl ?_
    refine r_bipush (v := 10) C dX3_single_97 (by decide) ?_
    refine r_icmp_ge (tgt := 112) C dX3_single_99 (by decide) (fun c32 => ?_) (fun c32 => ?_)
    · have h := h.1 c32
      refine r_aload_n C dX3_single_112 rfl ?_
      refine callW_L C (run_V (As := []) (rest := []) (ci := 3) C hZ.2.2 (tX3_miss _ g a T N _ h) gX3_single_X3_miss rfl dsX3_miss rfl rfl ⟨Nat.le_trans (Nat.le_of_ble_eq_true rfl) hF.1, Nat.le_trans (Nat.le_of_ble_eq_true rfl) hF.2.1⟩ rfl (List.mem_of_getElem? (i := 0) rfl) rfl (Nat.le_of_ble_eq_true rfl) dX3_single_113 ⟨Nat.zero_le _, Nat.zero_le _⟩) (fun r33 T34 h => ?_)
      show St x 0 0 (tW g a T34) _ _ 116
      exact r_lret C hZ (u := T34) h rfl dX3_single_116
    · have h := h.2 c32
      refine r_aload_n C dX3_single_102 rfl ?_
      refine r_iload_n C dX3_single_103 rfl ?_
      refine r_iconst (v := 1) C dX3_single_104 (by decide) ?_
      refine r_iadd C dX3_single_105 ?_
      refine callW_L C (run_V (As := [.int (v1 + (1 : Int32))]) (rest := []) (ci := 3) C hZ.2.2 (hZdenied T (v1 + (1 : Int32)) _ h) gX3_single_X3_denied rfl dsX3_denied hzZdenied.1 hzZdenied.2 hRZdenied rfl (List.mem_of_getElem? (i := 0) rfl) rfl (Nat.le_of_ble_eq_true rfl) dX3_single_106 ⟨Nat.zero_le _, Nat.zero_le _⟩) (fun r35 T36 h => ?_)
      show St x 0 0 (tW g a T36) _ _ 109
      refine r_goto (tgt := 116) C dX3_single_109 (by decide) ?_
      exact r_lret C hZ (u := T36) h rfl dX3_single_116
  have h := h.2.2.2.2.2.2.2.2.2.2 ⟨c7, c10, c13, c16, c19, c22, c25, c28, c31, c37⟩
  refine r_lookup (tgt := 200) C dX3_single_4 (by decide) (off := 196) (by show Op.lookupswitch.offset [(40, 113), (48, 134), (49, 140), (97, 148), (98, 156), (99, 164), (120, 172), (121, 180), (122, 188), (126, 92)] 196 _ = _; rw [lv_osw (k := 40) c7 (by decide), lv_osw (k := 48) c10 (by decide), lv_osw (k := 49) c13 (by decide), lv_osw (k := 97) c16 (by decide), lv_osw (k := 98) c19 (by decide), lv_osw (k := 99) c22 (by decide), lv_osw (k := 120) c25 (by decide), lv_osw (k := 121) c28 (by decide), lv_osw (k := 122) c31 (by decide), lv_osw (k := 126) c37 (by decide)]; rfl) (by decide) ?_
  refine r_aload_n C dX3_single_200 rfl ?_
  refine callW_L C (run_V (As := []) (rest := []) (ci := 3) C hZ.2.2 (tX3_miss _ g a T N _ h) gX3_single_X3_miss rfl dsX3_miss rfl rfl ⟨Nat.le_trans (Nat.le_of_ble_eq_true rfl) hF.1, Nat.le_trans (Nat.le_of_ble_eq_true rfl) hF.2.1⟩ rfl (List.mem_of_getElem? (i := 0) rfl) rfl (Nat.le_of_ble_eq_true rfl) dX3_single_201 ⟨Nat.zero_le _, Nat.zero_le _⟩) (fun r38 T39 h => ?_)
  show St x 0 0 (tW g a T39) _ _ 204
  exact r_lret C hZ (u := T39) h rfl dX3_single_204
theorem kwX3_denied_0 : Cond.fieldLink RX3 17 "WantsBench$Tape" "place" "I" ∈ wsX3_denied := by decide +kernel
theorem uwX3_denied_3 : ∀ w ∈ wsX30, w ∈ wsX3_denied := by decide +kernel
theorem kwX3_denied_2 : Cond.constantLong RX3 72 (-1) ∈ wsX3_denied := by decide +kernel
def bX3_denied (Zsingle : RS → Int32 → (Int64 → RS → Prop) → Prop) (N : Nat) (T : RS) (v1 : Int32) (Q : Int64 → RS → Prop) : Prop :=
  (∀ T1 : RS, T1 = sI T 2 ((T.1 2) + (1 : Int32)) → (Zsingle T1 v1 (fun r2 T3 => Q (r2 ^^^ (-1 : Int64)) T3)))
set_option maxRecDepth 100000 in
set_option maxHeartbeats 4000000 in
theorem tbX3_denied (l : Launch) (g : Gx) (a : Nat → Nat) (T : RS) {Zsingle : RS → Int32 → (Int64 → RS → Prop) → Prop} (N : Nat) (v1 : Int32) (Q : Int64 → RS → Prop) {rm : Room} (hF : 0 ≤ rm.frames ∧ 0 ≤ rm.locals ∧ rm.cells = 0 ∧ rm.slots = 0) {rmZsingle : Room} (hRZsingle : rmZsingle.frames + 1 ≤ rm.frames ∧ 8 + (2 + 11) + rmZsingle.locals ≤ rm.locals) (hzZsingle : rmZsingle.cells = 0 ∧ rmZsingle.slots = 0) (hZsingle : ∀ (T : RS) (i0 : Int32) (Q : Int64 → RS → Prop), Zsingle T i0 Q → MetG l g yX3_single wsX3_single rmZsingle [.ref (a 50), .int i0] (tW g a T) (fun u : RS => tW g a u) (qL (fun (r : Int64) (u : RS) => Q r u)) 0 0) (h : bX3_denied Zsingle N T v1 Q) : MetG l g yX3_denied wsX3_denied rm [.ref (a 50), .int v1] (tW g a T) (fun u : RS => tW g a u) (qL (fun (r : Int64) (u : RS) => Q r u)) 0 0 := by
  refine met_of (cc := cX3_denied) (own := RX3) (nL := 2) (ret := (some .long)) (lv := [(0, .ref (a 50)), (1, .int v1)]) (by decide) rfl rfl (Nat.le_of_ble_eq_true rfl) rfl ?_
  intro x C hl hZ
  subst hl
  unfold bX3_denied at h
  refine r_aload_n C dX3_denied_0 rfl ?_
  refine r_dup C dX3_denied_1 rfl ?_
  refine r_get (cn := RX3) (T := TX3) (N := 8) (ci := 3) C uwX3_denied_3 0 rfl rfl 2 (by decide) kwX3_denied_0 (v := .int (T.1 2)) rfl dX3_denied_2 ?_
  refine r_iconst (v := 1) C dX3_denied_5 (by decide) ?_
  refine r_iadd C dX3_denied_6 ?_
  obtain ⟨T1, hT1⟩ : ∃ z : RS, z = sI T 2 ((T.1 2) + (1 : Int32)) := ⟨_, rfl⟩
  have h := h T1 hT1
  refine r_put (cn := RX3) (T := TX3) (N := 8) (ci := 3) (ws' := tW g a T1) C uwX3_denied_3 tyX3 tyX3_ok nmX3 0 rfl rfl 2 (by decide) kwX3_denied_0 rfl rfl rfl (Nat.le_of_ble_eq_true rfl) dX3_denied_7 (by rw [hT1]; rfl) ?_
  refine r_aload_n C dX3_denied_10 rfl ?_
  refine r_iload_n C dX3_denied_11 rfl ?_
  refine callW_L C (run_V (As := [.int v1]) (rest := []) (ci := 3) C hZ.2.2 (hZsingle T1 v1 _ h) gX3_denied_X3_single rfl dsX3_single hzZsingle.1 hzZsingle.2 hRZsingle rfl (List.mem_of_getElem? (i := 0) rfl) rfl (Nat.le_of_ble_eq_true rfl) dX3_denied_12 ⟨Nat.zero_le _, Nat.zero_le _⟩) (fun r2 T3 h => ?_)
  show St x 0 0 (tW g a T3) _ _ 15
  refine r_ldc2 C kwX3_denied_2 dX3_denied_15 ?_
  refine r_lxor C dX3_denied_18 ?_
  exact r_lret C hZ (u := T3) h rfl dX3_denied_19
theorem kwX3_bracketed_0 : Cond.fieldLink RX3 17 "WantsBench$Tape" "place" "I" ∈ wsX3_bracketed := by decide +kernel
theorem uwX3_bracketed_3 : ∀ w ∈ wsX30, w ∈ wsX3_bracketed := by decide +kernel
def bX3_bracketed (Zeither : RS → Int32 → (Int64 → RS → Prop) → Prop) (N : Nat) (T : RS) (v1 : Int32) (Q : Int64 → RS → Prop) : Prop :=
  (∀ T1 : RS, T1 = sI T 2 ((T.1 2) + (1 : Int32)) → (Zeither T1 v1 (fun r2 T3 => (fX3_look N T3 (fun r4 => ((¬ r4 = 41 → (fX3_miss N T3 (fun r6 T7 => Q r2 T7))) ∧ (r4 = 41 → (∀ T8 : RS, T8 = sI T3 2 ((T3.1 2) + (1 : Int32)) → Q r2 T8))))))))
set_option maxRecDepth 100000 in
set_option maxHeartbeats 4000000 in
theorem tbX3_bracketed (l : Launch) (g : Gx) (a : Nat → Nat) (T : RS) {Zeither : RS → Int32 → (Int64 → RS → Prop) → Prop} (N : Nat) (v1 : Int32) (Q : Int64 → RS → Prop) {rm : Room} (hF : 1 ≤ rm.frames ∧ 20 ≤ rm.locals ∧ rm.cells = 0 ∧ rm.slots = 0) {rmZeither : Room} (hRZeither : rmZeither.frames + 1 ≤ rm.frames ∧ 8 + (5 + 11) + rmZeither.locals ≤ rm.locals) (hzZeither : rmZeither.cells = 0 ∧ rmZeither.slots = 0) (hZeither : ∀ (T : RS) (i0 : Int32) (Q : Int64 → RS → Prop), Zeither T i0 Q → MetG l g yX3_either wsX3_either rmZeither [.ref (a 50), .int i0] (tW g a T) (fun u : RS => tW g a u) (qL (fun (r : Int64) (u : RS) => Q r u)) 0 0) (h : bX3_bracketed Zeither N T v1 Q) : MetG l g yX3_bracketed wsX3_bracketed rm [.ref (a 50), .int v1] (tW g a T) (fun u : RS => tW g a u) (qL (fun (r : Int64) (u : RS) => Q r u)) 0 0 := by
  refine met_of (cc := cX3_bracketed) (own := RX3) (nL := 4) (ret := (some .long)) (lv := [(0, .ref (a 50)), (1, .int v1)]) (by decide) rfl rfl (Nat.le_of_ble_eq_true rfl) rfl ?_
  intro x C hl hZ
  subst hl
  unfold bX3_bracketed at h
  refine r_aload_n C dX3_bracketed_0 rfl ?_
  refine r_dup C dX3_bracketed_1 rfl ?_
  refine r_get (cn := RX3) (T := TX3) (N := 8) (ci := 3) C uwX3_bracketed_3 0 rfl rfl 2 (by decide) kwX3_bracketed_0 (v := .int (T.1 2)) rfl dX3_bracketed_2 ?_
  refine r_iconst (v := 1) C dX3_bracketed_5 (by decide) ?_
  refine r_iadd C dX3_bracketed_6 ?_
  obtain ⟨T1, hT1⟩ : ∃ z : RS, z = sI T 2 ((T.1 2) + (1 : Int32)) := ⟨_, rfl⟩
  have h := h T1 hT1
  refine r_put (cn := RX3) (T := TX3) (N := 8) (ci := 3) (ws' := tW g a T1) C uwX3_bracketed_3 tyX3 tyX3_ok nmX3 0 rfl rfl 2 (by decide) kwX3_bracketed_0 rfl rfl rfl (Nat.le_of_ble_eq_true rfl) dX3_bracketed_7 (by rw [hT1]; rfl) ?_
  refine r_aload_n C dX3_bracketed_10 rfl ?_
  refine r_iload_n C dX3_bracketed_11 rfl ?_
  refine callW_L C (run_V (As := [.int v1]) (rest := []) (ci := 3) C hZ.2.2 (hZeither T1 v1 _ h) gX3_bracketed_X3_either rfl dsX3_either hzZeither.1 hzZeither.2 hRZeither rfl (List.mem_of_getElem? (i := 0) rfl) rfl (Nat.le_of_ble_eq_true rfl) dX3_bracketed_12 ⟨Nat.zero_le _, Nat.zero_le _⟩) (fun r2 T3 h => ?_)
  show St x 0 0 (tW g a T3) _ _ 15
  refine r_lstore_n (lv' := [(0, .ref (a 50)), (2, .long r2)]) C dX3_bracketed_15 [some 0, none] (by decide) rfl rfl ?_
  refine r_aload_n C dX3_bracketed_16 rfl ?_
  refine callR_I C (run_V (As := []) (rest := []) (ci := 3) C hZ.2.2 (tX3_look _ g a T3 N _ h) gX3_bracketed_X3_look rfl dsX3_look rfl rfl ⟨Nat.le_trans (Nat.le_of_ble_eq_true rfl) hF.1, Nat.le_trans (Nat.le_of_ble_eq_true rfl) hF.2.1⟩ rfl (List.mem_of_getElem? (i := 0) rfl) rfl (Nat.le_of_ble_eq_true rfl) dX3_bracketed_17 ⟨Nat.zero_le _, Nat.zero_le _⟩) (List.Sublist.refl _) (fun _ => rfl) (fun r4 _ h => ?_)
  refine r_bipush (v := 41) C dX3_bracketed_20 (by decide) ?_
  refine r_icmp_ne (tgt := 38) C dX3_bracketed_22 (by decide) (fun c5 => ?_) (fun c5 => ?_)
  · have h := h.1 c5
    refine r_aload_n C dX3_bracketed_38 rfl ?_
    refine callW_L C (run_V (As := []) (rest := []) (ci := 3) C hZ.2.2 (tX3_miss _ g a T3 N _ h) gX3_bracketed_X3_miss rfl dsX3_miss rfl rfl ⟨Nat.le_trans (Nat.le_of_ble_eq_true rfl) hF.1, Nat.le_trans (Nat.le_of_ble_eq_true rfl) hF.2.1⟩ rfl (List.mem_of_getElem? (i := 0) rfl) rfl (Nat.le_of_ble_eq_true rfl) dX3_bracketed_39 ⟨Nat.zero_le _, Nat.zero_le _⟩) (fun r6 T7 h => ?_)
    show St x 0 0 (tW g a T7) _ _ 42
    refine r_pop2 C dX3_bracketed_42 ?_
    refine r_lload_n C dX3_bracketed_43 rfl ?_
    exact r_lret C hZ (u := T7) h rfl dX3_bracketed_44
  · have h := h.2 c5
    refine r_aload_n C dX3_bracketed_25 rfl ?_
    refine r_dup C dX3_bracketed_26 rfl ?_
    refine r_get (cn := RX3) (T := TX3) (N := 8) (ci := 3) C uwX3_bracketed_3 0 rfl rfl 2 (by decide) kwX3_bracketed_0 (v := .int (T3.1 2)) rfl dX3_bracketed_27 ?_
    refine r_iconst (v := 1) C dX3_bracketed_30 (by decide) ?_
    refine r_iadd C dX3_bracketed_31 ?_
    obtain ⟨T8, hT8⟩ : ∃ z : RS, z = sI T3 2 ((T3.1 2) + (1 : Int32)) := ⟨_, rfl⟩
    have h := h T8 hT8
    refine r_put (cn := RX3) (T := TX3) (N := 8) (ci := 3) (ws' := tW g a T8) C uwX3_bracketed_3 tyX3 tyX3_ok nmX3 0 rfl rfl 2 (by decide) kwX3_bracketed_0 rfl rfl rfl (Nat.le_of_ble_eq_true rfl) dX3_bracketed_32 (by rw [hT8]; rfl) ?_
    refine r_goto (tgt := 43) C dX3_bracketed_35 (by decide) ?_
    refine r_lload_n C dX3_bracketed_43 rfl ?_
    exact r_lret C hZ (u := T8) h rfl dX3_bracketed_44
def gX3 (N : Nat) : Nat → Nat → RS → Int32 → (Int64 → RS → Prop) → Prop
  | 0, _, _, _, _ => False
  | dn + 1, 0, T, i0, Q => bX3_either (gX3 N dn 1) N T i0 Q
  | dn + 1, 1, T, i0, Q => bX3_both (gX3 N dn 2) N T i0 Q
  | dn + 1, 2, T, i0, Q => bX3_single (gX3 N dn 3) (gX3 N dn 4) N T i0 Q
  | dn + 1, 3, T, i0, Q => bX3_denied (gX3 N dn 2) N T i0 Q
  | dn + 1, _ + 4, T, i0, Q => bX3_bracketed (gX3 N dn 0) N T i0 Q
set_option maxRecDepth 100000 in
set_option maxHeartbeats 4000000 in
theorem gX3_met (l : Launch) (g : Gx) (a : Nat → Nat) (N : Nat) : ∀ dn : Nat, (∀ (T : RS) (v1 : Int32) (Q : Int64 → RS → Prop), gX3 N dn 0 T v1 Q → MetG l g yX3_either wsX3_either (rmR dn) [.ref (a 50), .int v1] (tW g a T) (fun u : RS => tW g a u) (qL (fun (r : Int64) (u : RS) => Q r u)) 0 0) ∧ (∀ (T : RS) (v1 : Int32) (Q : Int64 → RS → Prop), gX3 N dn 1 T v1 Q → MetG l g yX3_both wsX3_both (rmR dn) [.ref (a 50), .int v1] (tW g a T) (fun u : RS => tW g a u) (qL (fun (r : Int64) (u : RS) => Q r u)) 0 0) ∧ (∀ (T : RS) (v1 : Int32) (Q : Int64 → RS → Prop), gX3 N dn 2 T v1 Q → MetG l g yX3_single wsX3_single (rmR dn) [.ref (a 50), .int v1] (tW g a T) (fun u : RS => tW g a u) (qL (fun (r : Int64) (u : RS) => Q r u)) 0 0) ∧ (∀ (T : RS) (v1 : Int32) (Q : Int64 → RS → Prop), gX3 N dn 3 T v1 Q → MetG l g yX3_denied wsX3_denied (rmR dn) [.ref (a 50), .int v1] (tW g a T) (fun u : RS => tW g a u) (qL (fun (r : Int64) (u : RS) => Q r u)) 0 0) ∧ (∀ (T : RS) (v1 : Int32) (Q : Int64 → RS → Prop), gX3 N dn 4 T v1 Q → MetG l g yX3_bracketed wsX3_bracketed (rmR dn) [.ref (a 50), .int v1] (tW g a T) (fun u : RS => tW g a u) (qL (fun (r : Int64) (u : RS) => Q r u)) 0 0) := by
  intro dn
  induction dn with
  | zero => exact ⟨fun _ _ _ h => False.elim h, fun _ _ _ h => False.elim h, fun _ _ _ h => False.elim h, fun _ _ _ h => False.elim h, fun _ _ _ h => False.elim h⟩
  | succ dn ih => exact ⟨fun T v1 Q h => tbX3_either l g a T N v1 Q (Zboth := (gX3 N dn 1)) (rmR_F (dn + 1) 1 20 (by decide) (by decide)) (rmR_ok dn 5 (by decide)) ⟨rfl, rfl⟩ (fun T v1 Q h => ih.2.1 T v1 Q h) h,
      fun T v1 Q h => tbX3_both l g a T N v1 Q (Zsingle := (gX3 N dn 2)) (rmR_F (dn + 1) 1 20 (by decide) (by decide)) (rmR_ok dn 2 (by decide)) ⟨rfl, rfl⟩ (fun T v1 Q h => ih.2.2.1 T v1 Q h) h,
      fun T v1 Q h => tbX3_single l g a T N v1 Q (Zdenied := (gX3 N dn 3)) (Zbracketed := (gX3 N dn 4)) (rmR_F (dn + 1) 1 22 (by decide) (by decide)) (rmR_ok dn 2 (by decide)) ⟨rfl, rfl⟩ (fun T v1 Q h => ih.2.2.2.1 T v1 Q h) (rmR_ok dn 4 (by decide)) ⟨rfl, rfl⟩ (fun T v1 Q h => ih.2.2.2.2 T v1 Q h) h,
      fun T v1 Q h => tbX3_denied l g a T N v1 Q (Zsingle := (gX3 N dn 2)) (rmR_F (dn + 1) 0 0 (by decide) (by decide)) (rmR_ok dn 2 (by decide)) ⟨rfl, rfl⟩ (fun T v1 Q h => ih.2.2.1 T v1 Q h) h,
      fun T v1 Q h => tbX3_bracketed l g a T N v1 Q (Zeither := (gX3 N dn 0)) (rmR_F (dn + 1) 1 20 (by decide) (by decide)) (rmR_ok dn 5 (by decide)) ⟨rfl, rfl⟩ (fun T v1 Q h => ih.1 T v1 Q h) h⟩
def fX3_either (N : Nat) (T : RS) (v1 : Int32) (Q : Int64 → RS → Prop) : Prop := gX3 N 50 0 T v1 Q
def rmX3_either : Room := rmR 50
theorem tX3_either (l : Launch) (g : Gx) (a : Nat → Nat) (T : RS) (N : Nat) (v1 : Int32) (Q : Int64 → RS → Prop) (h : fX3_either N T v1 Q) : MetG l g yX3_either wsX3_either rmX3_either [.ref (a 50), .int v1] (tW g a T) (fun u : RS => tW g a u) (qL (fun (r : Int64) (u : RS) => Q r u)) 0 0 := (gX3_met l g a N 50).1 T v1 Q h
def fX3_both (N : Nat) (T : RS) (v1 : Int32) (Q : Int64 → RS → Prop) : Prop := gX3 N 50 1 T v1 Q
def rmX3_both : Room := rmR 50
theorem tX3_both (l : Launch) (g : Gx) (a : Nat → Nat) (T : RS) (N : Nat) (v1 : Int32) (Q : Int64 → RS → Prop) (h : fX3_both N T v1 Q) : MetG l g yX3_both wsX3_both rmX3_both [.ref (a 50), .int v1] (tW g a T) (fun u : RS => tW g a u) (qL (fun (r : Int64) (u : RS) => Q r u)) 0 0 := (gX3_met l g a N 50).2.1 T v1 Q h
def fX3_single (N : Nat) (T : RS) (v1 : Int32) (Q : Int64 → RS → Prop) : Prop := gX3 N 50 2 T v1 Q
def rmX3_single : Room := rmR 50
theorem tX3_single (l : Launch) (g : Gx) (a : Nat → Nat) (T : RS) (N : Nat) (v1 : Int32) (Q : Int64 → RS → Prop) (h : fX3_single N T v1 Q) : MetG l g yX3_single wsX3_single rmX3_single [.ref (a 50), .int v1] (tW g a T) (fun u : RS => tW g a u) (qL (fun (r : Int64) (u : RS) => Q r u)) 0 0 := (gX3_met l g a N 50).2.2.1 T v1 Q h
def fX3_denied (N : Nat) (T : RS) (v1 : Int32) (Q : Int64 → RS → Prop) : Prop := gX3 N 50 3 T v1 Q
def rmX3_denied : Room := rmR 50
theorem tX3_denied (l : Launch) (g : Gx) (a : Nat → Nat) (T : RS) (N : Nat) (v1 : Int32) (Q : Int64 → RS → Prop) (h : fX3_denied N T v1 Q) : MetG l g yX3_denied wsX3_denied rmX3_denied [.ref (a 50), .int v1] (tW g a T) (fun u : RS => tW g a u) (qL (fun (r : Int64) (u : RS) => Q r u)) 0 0 := (gX3_met l g a N 50).2.2.2.1 T v1 Q h
def fX3_bracketed (N : Nat) (T : RS) (v1 : Int32) (Q : Int64 → RS → Prop) : Prop := gX3 N 50 4 T v1 Q
def rmX3_bracketed : Room := rmR 50
theorem tX3_bracketed (l : Launch) (g : Gx) (a : Nat → Nat) (T : RS) (N : Nat) (v1 : Int32) (Q : Int64 → RS → Prop) (h : fX3_bracketed N T v1 Q) : MetG l g yX3_bracketed wsX3_bracketed rmX3_bracketed [.ref (a 50), .int v1] (tW g a T) (fun u : RS => tW g a u) (qL (fun (r : Int64) (u : RS) => Q r u)) 0 0 := (gX3_met l g a N 50).2.2.2.2 T v1 Q h
def rmX3_readSort : Room := { frames := 1, cells := 0, slots := 0, locals := 20 }
theorem kwX3_readSort_0 : Cond.fieldLink RX3 17 "WantsBench$Tape" "place" "I" ∈ wsX3_readSort := by decide +kernel
theorem uwX3_readSort_3 : ∀ w ∈ wsX30, w ∈ wsX3_readSort := by decide +kernel
def fX3_readSort_24 (N : Nat) (T : RS) (v1 : Int32) (Q : Int32 → RS → Prop) : Prop :=
  (∀ T3 : RS, T3 = sI T 2 ((T.1 2) + (1 : Int32)) → ((¬ v1 = 62 → Q 2 T3) ∧ (v1 = 62 → Q 1 T3)))
set_option maxRecDepth 100000 in
set_option maxHeartbeats 4000000 in
theorem wfX3_readSort_24 {x : Nx} {g : Gx} {W0 : va_W} {a : Nat → Nat} {T : RS} {N : Nat} {v1 : Int32} {Q : Int32 → RS → Prop} (C : Cx x g cX3_readSort RX3 wsX3_readSort rmX3_readSort yX3_readSort (some .int) 2) (hZ : Zq x g W0 (fun u : RS => tW g a u) (qI (fun (r : Int32) (u : RS) => Q r u)) 0 0) (h : fX3_readSort_24 N T v1 Q) : St x 0 0 (tW g a T) [(0, .ref (a 50)), (1, .int v1)] [] 24 := by
  unfold fX3_readSort_24 at h
  refine r_aload_n C dX3_readSort_24 rfl ?_
  refine r_dup C dX3_readSort_25 rfl ?_
  refine r_get (cn := RX3) (T := TX3) (N := 8) (ci := 3) C uwX3_readSort_3 0 rfl rfl 2 (by decide) kwX3_readSort_0 (v := .int (T.1 2)) rfl dX3_readSort_26 ?_
  refine r_iconst (v := 1) C dX3_readSort_29 (by decide) ?_
  refine r_iadd C dX3_readSort_30 ?_
  obtain ⟨T3, hT3⟩ : ∃ z : RS, z = sI T 2 ((T.1 2) + (1 : Int32)) := ⟨_, rfl⟩
  have h := h T3 hT3
  refine r_put (cn := RX3) (T := TX3) (N := 8) (ci := 3) (ws' := tW g a T3) C uwX3_readSort_3 tyX3 tyX3_ok nmX3 0 rfl rfl 2 (by decide) kwX3_readSort_0 rfl rfl rfl (Nat.le_of_ble_eq_true rfl) dX3_readSort_31 (by rw [hT3]; rfl) ?_
  refine r_iload_n C dX3_readSort_34 rfl ?_
  refine r_bipush (v := 62) C dX3_readSort_35 (by decide) ?_
  refine r_icmp_ne (tgt := 44) C dX3_readSort_37 (by decide) (fun c4 => ?_) (fun c4 => ?_)
  · have h := h.1 c4
    refine r_iconst (v := 2) C dX3_readSort_44 (by decide) ?_
    exact r_iret C hZ (u := T3) h rfl dX3_readSort_45
  · have h := h.2 c4
    refine r_iconst (v := 1) C dX3_readSort_40 (by decide) ?_
    refine r_goto (tgt := 45) C dX3_readSort_41 (by decide) ?_
    exact r_iret C hZ (u := T3) h rfl dX3_readSort_45
def fX3_readSort (N : Nat) (T : RS) (Q : Int32 → RS → Prop) : Prop :=
  (fX3_look N T (fun r1 => ((r1 = 62 → (fX3_readSort_24 N T r1 Q)) ∧ (¬ r1 = 62 → ((r1 = 59 → (fX3_readSort_24 N T r1 Q)) ∧ (¬ r1 = 59 → (fX3_miss N T (fun r6 T7 => Q 0 T7))))))))
set_option maxRecDepth 100000 in
set_option maxHeartbeats 4000000 in
theorem tX3_readSort (l : Launch) (g : Gx) (a : Nat → Nat) (T : RS) (N : Nat) (Q : Int32 → RS → Prop) (h : fX3_readSort N T Q) : MetG l g yX3_readSort wsX3_readSort rmX3_readSort [.ref (a 50)] (tW g a T) (fun u : RS => tW g a u) (qI (fun (r : Int32) (u : RS) => Q r u)) 0 0 := by
  refine met_of (cc := cX3_readSort) (own := RX3) (nL := 2) (ret := (some .int)) (lv := [(0, .ref (a 50))]) (by decide) rfl rfl (Nat.le_of_ble_eq_true rfl) rfl ?_
  intro x C hl hZ
  subst hl
  unfold fX3_readSort at h
  refine r_aload_n C dX3_readSort_0 rfl ?_
  refine callR_I C (run_V (As := []) (rest := []) (ci := 3) C hZ.2.2 (tX3_look _ g a T N _ h) gX3_readSort_X3_look rfl dsX3_look rfl rfl ⟨(Nat.le_of_ble_eq_true rfl), (Nat.le_of_ble_eq_true rfl)⟩ rfl (List.mem_of_getElem? (i := 0) rfl) rfl (Nat.le_of_ble_eq_true rfl) dX3_readSort_1 ⟨Nat.zero_le _, Nat.zero_le _⟩) (List.Sublist.refl _) (fun _ => rfl) (fun r1 _ h => ?_)
  refine r_istore_n (lv' := [(0, .ref (a 50)), (1, .int r1)]) C dX3_readSort_4 [some 0, none] (by decide) rfl rfl ?_
  refine r_iload_n C dX3_readSort_5 rfl ?_
  refine r_bipush (v := 62) C dX3_readSort_6 (by decide) ?_
  refine r_icmp_eq (tgt := 24) C dX3_readSort_8 (by decide) (fun c2 => ?_) (fun c2 => ?_)
  · have h := h.1 c2
    exact wfX3_readSort_24 C hZ h
  · have h := h.2 c2
    refine r_iload_n C dX3_readSort_11 rfl ?_
    refine r_bipush (v := 59) C dX3_readSort_12 (by decide) ?_
    refine r_icmp_eq (tgt := 24) C dX3_readSort_14 (by decide) (fun c5 => ?_) (fun c5 => ?_)
    · have h := h.1 c5
      exact wfX3_readSort_24 C hZ h
    · have h := h.2 c5
      refine r_aload_n C dX3_readSort_17 rfl ?_
      refine callW_L C (run_V (As := []) (rest := []) (ci := 3) C hZ.2.2 (tX3_miss _ g a T N _ h) gX3_readSort_X3_miss rfl dsX3_miss rfl rfl ⟨(Nat.le_of_ble_eq_true rfl), (Nat.le_of_ble_eq_true rfl)⟩ rfl (List.mem_of_getElem? (i := 0) rfl) rfl (Nat.le_of_ble_eq_true rfl) dX3_readSort_18 ⟨Nat.zero_le _, Nat.zero_le _⟩) (fun r6 T7 h => ?_)
      show St x 0 0 (tW g a T7) _ _ 21
      refine r_pop2 C dX3_readSort_21 ?_
      refine r_iconst (v := 0) C dX3_readSort_22 (by decide) ?_
      exact r_iret C hZ (u := T7) h rfl dX3_readSort_23
def rmX3_readDigit : Room := { frames := 1, cells := 0, slots := 0, locals := 20 }
theorem kwX3_readDigit_0 : Cond.fieldLink RX3 17 "WantsBench$Tape" "place" "I" ∈ wsX3_readDigit := by decide +kernel
theorem uwX3_readDigit_3 : ∀ w ∈ wsX30, w ∈ wsX3_readDigit := by decide +kernel
def fX3_readDigit_17 (N : Nat) (T : RS) (Q : Int32 → RS → Prop) : Prop :=
  (fX3_miss N T (fun r3 T4 => Q 0 T4))
set_option maxRecDepth 100000 in
set_option maxHeartbeats 4000000 in
theorem wfX3_readDigit_17 {x : Nx} {g : Gx} {W0 : va_W} {a : Nat → Nat} {T : RS} {N : Nat} {Q : Int32 → RS → Prop} (C : Cx x g cX3_readDigit RX3 wsX3_readDigit rmX3_readDigit yX3_readDigit (some .int) 2) (hZ : Zq x g W0 (fun u : RS => tW g a u) (qI (fun (r : Int32) (u : RS) => Q r u)) 0 0) (h : fX3_readDigit_17 N T Q) : St x 0 0 (tW g a T) [(0, .ref (a 50))] [] 17 := by
  unfold fX3_readDigit_17 at h
  refine r_aload_n C dX3_readDigit_17 rfl ?_
  refine callW_L C (run_V (As := []) (rest := []) (ci := 3) C hZ.2.2 (tX3_miss _ g a T N _ h) gX3_readDigit_X3_miss rfl dsX3_miss rfl rfl ⟨(Nat.le_of_ble_eq_true rfl), (Nat.le_of_ble_eq_true rfl)⟩ rfl (List.mem_of_getElem? (i := 0) rfl) rfl (Nat.le_of_ble_eq_true rfl) dX3_readDigit_18 ⟨Nat.zero_le _, Nat.zero_le _⟩) (fun r3 T4 h => ?_)
  show St x 0 0 (tW g a T4) _ _ 21
  refine r_pop2 C dX3_readDigit_21 ?_
  refine r_iconst (v := 0) C dX3_readDigit_22 (by decide) ?_
  exact r_iret C hZ (u := T4) h rfl dX3_readDigit_23
def fX3_readDigit (N : Nat) (T : RS) (Q : Int32 → RS → Prop) : Prop :=
  (fX3_look N T (fun r1 => ((r1 < 48 → (fX3_readDigit_17 N T Q)) ∧ (¬ r1 < 48 → ((r1 ≤ 51 → (∀ T6 : RS, T6 = sI T 2 ((T.1 2) + (1 : Int32)) → Q (r1 - (48 : Int32)) T6)) ∧ (¬ r1 ≤ 51 → (fX3_readDigit_17 N T Q)))))))
set_option maxRecDepth 100000 in
set_option maxHeartbeats 4000000 in
theorem tX3_readDigit (l : Launch) (g : Gx) (a : Nat → Nat) (T : RS) (N : Nat) (Q : Int32 → RS → Prop) (h : fX3_readDigit N T Q) : MetG l g yX3_readDigit wsX3_readDigit rmX3_readDigit [.ref (a 50)] (tW g a T) (fun u : RS => tW g a u) (qI (fun (r : Int32) (u : RS) => Q r u)) 0 0 := by
  refine met_of (cc := cX3_readDigit) (own := RX3) (nL := 2) (ret := (some .int)) (lv := [(0, .ref (a 50))]) (by decide) rfl rfl (Nat.le_of_ble_eq_true rfl) rfl ?_
  intro x C hl hZ
  subst hl
  unfold fX3_readDigit at h
  refine r_aload_n C dX3_readDigit_0 rfl ?_
  refine callR_I C (run_V (As := []) (rest := []) (ci := 3) C hZ.2.2 (tX3_look _ g a T N _ h) gX3_readDigit_X3_look rfl dsX3_look rfl rfl ⟨(Nat.le_of_ble_eq_true rfl), (Nat.le_of_ble_eq_true rfl)⟩ rfl (List.mem_of_getElem? (i := 0) rfl) rfl (Nat.le_of_ble_eq_true rfl) dX3_readDigit_1 ⟨Nat.zero_le _, Nat.zero_le _⟩) (List.Sublist.refl _) (fun _ => rfl) (fun r1 _ h => ?_)
  refine r_istore_n (lv' := [(0, .ref (a 50)), (1, .int r1)]) C dX3_readDigit_4 [some 0, none] (by decide) rfl rfl ?_
  refine r_iload_n C dX3_readDigit_5 rfl ?_
  refine r_bipush (v := 48) C dX3_readDigit_6 (by decide) ?_
  refine r_icmp_lt (tgt := 17) C dX3_readDigit_8 (by decide) (fun c2 => ?_) (fun c2 => ?_)
  · have h := h.1 c2
    refine r_sub [0] (lv' := [(0, .ref (a 50))]) rfl ?_
    exact wfX3_readDigit_17 C hZ h
  · have h := h.2 c2
    refine r_iload_n C dX3_readDigit_11 rfl ?_
    refine r_bipush (v := 51) C dX3_readDigit_12 (by decide) ?_
    refine r_icmp_le (tgt := 24) C dX3_readDigit_14 (by decide) (fun c5 => ?_) (fun c5 => ?_)
    · have h := h.1 c5
      refine r_aload_n C dX3_readDigit_24 rfl ?_
      refine r_dup C dX3_readDigit_25 rfl ?_
      refine r_get (cn := RX3) (T := TX3) (N := 8) (ci := 3) C uwX3_readDigit_3 0 rfl rfl 2 (by decide) kwX3_readDigit_0 (v := .int (T.1 2)) rfl dX3_readDigit_26 ?_
      refine r_iconst (v := 1) C dX3_readDigit_29 (by decide) ?_
      refine r_iadd C dX3_readDigit_30 ?_
      obtain ⟨T6, hT6⟩ : ∃ z : RS, z = sI T 2 ((T.1 2) + (1 : Int32)) := ⟨_, rfl⟩
      have h := h T6 hT6
      refine r_put (cn := RX3) (T := TX3) (N := 8) (ci := 3) (ws' := tW g a T6) C uwX3_readDigit_3 tyX3 tyX3_ok nmX3 0 rfl rfl 2 (by decide) kwX3_readDigit_0 rfl rfl rfl (Nat.le_of_ble_eq_true rfl) dX3_readDigit_31 (by rw [hT6]; rfl) ?_
      refine r_iload_n C dX3_readDigit_34 rfl ?_
      refine r_bipush (v := 48) C dX3_readDigit_35 (by decide) ?_
      refine r_isub C dX3_readDigit_37 ?_
      exact r_iret C hZ (u := T6) h rfl dX3_readDigit_38
    · have h := h.2 c5
      refine r_sub [0] (lv' := [(0, .ref (a 50))]) rfl ?_
      exact wfX3_readDigit_17 C hZ h
def rmX3_parse : Room := { frames := 61, cells := 0, slots := 0, locals := 2424 }
theorem kwX3_parse_0 : Cond.fieldLink RX3 17 "WantsBench$Tape" "place" "I" ∈ wsX3_parse := by decide +kernel
theorem uwX3_parse_3 : ∀ w ∈ wsX30, w ∈ wsX3_parse := by decide +kernel
theorem kwX3_parse_2 : Cond.fieldLink RX3 20 "WantsBench$Tape" "fault" "I" ∈ wsX3_parse := by decide +kernel
theorem kwX3_parse_3 : Cond.fieldLink RX3 23 "WantsBench$Tape" "n" "I" ∈ wsX3_parse := by decide +kernel
theorem kwX3_parse_4 : Cond.fieldLink RX3 26 "WantsBench$Tape" "second" "J" ∈ wsX3_parse := by decide +kernel
theorem kwX3_parse_5 : Cond.fieldLink RX3 43 "WantsBench$Tape" "first" "J" ∈ wsX3_parse := by decide +kernel
theorem kwX3_parse_6 : Cond.fieldLink RX3 36 "WantsBench$Tape" "sort" "I" ∈ wsX3_parse := by decide +kernel
def fX3_parse_90 (N : Nat) (T : RS) (Q : Int32 → RS → Prop) : Prop :=
  (fX3_look N T (fun r19 => ((r19 = (-1) → Q (T.1 3) T) ∧ (¬ r19 = (-1) → (fX3_miss N T (fun r21 T22 => Q (T22.1 3) T22))))))
set_option maxRecDepth 100000 in
set_option maxHeartbeats 4000000 in
theorem wfX3_parse_90 {x : Nx} {g : Gx} {W0 : va_W} {a : Nat → Nat} {T : RS} {N : Nat} {Q : Int32 → RS → Prop} (C : Cx x g cX3_parse RX3 wsX3_parse rmX3_parse yX3_parse (some .int) 1) (hZ : Zq x g W0 (fun u : RS => tW g a u) (qI (fun (r : Int32) (u : RS) => Q r u)) 0 0) (h : fX3_parse_90 N T Q) : St x 0 0 (tW g a T) [(0, .ref (a 50))] [] 90 := by
  unfold fX3_parse_90 at h
  refine r_aload_n C dX3_parse_90 rfl ?_
  refine callR_I C (run_V (As := []) (rest := []) (ci := 3) C hZ.2.2 (tX3_look _ g a T N _ h) gX3_parse_X3_look rfl dsX3_look rfl rfl ⟨(Nat.le_of_ble_eq_true rfl), (Nat.le_of_ble_eq_true rfl)⟩ rfl (List.mem_of_getElem? (i := 0) rfl) rfl (Nat.le_of_ble_eq_true rfl) dX3_parse_91 ⟨Nat.zero_le _, Nat.zero_le _⟩) (List.Sublist.refl _) (fun _ => rfl) (fun r19 _ h => ?_)
  refine r_iconst (v := (-1)) C dX3_parse_94 (by decide) ?_
  refine r_icmp_eq (tgt := 103) C dX3_parse_95 (by decide) (fun c20 => ?_) (fun c20 => ?_)
  · have h := h.1 c20
    refine r_aload_n C dX3_parse_103 rfl ?_
    refine r_get (cn := RX3) (T := TX3) (N := 8) (ci := 3) C uwX3_parse_3 0 rfl rfl 3 (by decide) kwX3_parse_2 (v := .int (T.1 3)) rfl dX3_parse_104 ?_
    exact r_iret C hZ (u := T) h rfl dX3_parse_107
  · have h := h.2 c20
    refine r_aload_n C dX3_parse_98 rfl ?_
    refine callW_L C (run_V (As := []) (rest := []) (ci := 3) C hZ.2.2 (tX3_miss _ g a T N _ h) gX3_parse_X3_miss rfl dsX3_miss rfl rfl ⟨(Nat.le_of_ble_eq_true rfl), (Nat.le_of_ble_eq_true rfl)⟩ rfl (List.mem_of_getElem? (i := 0) rfl) rfl (Nat.le_of_ble_eq_true rfl) dX3_parse_99 ⟨Nat.zero_le _, Nat.zero_le _⟩) (fun r21 T22 h => ?_)
    show St x 0 0 (tW g a T22) _ _ 102
    refine r_pop2 C dX3_parse_102 ?_
    refine r_aload_n C dX3_parse_103 rfl ?_
    refine r_get (cn := RX3) (T := TX3) (N := 8) (ci := 3) C uwX3_parse_3 0 rfl rfl 3 (by decide) kwX3_parse_2 (v := .int (T22.1 3)) rfl dX3_parse_104 ?_
    exact r_iret C hZ (u := T22) h rfl dX3_parse_107
def fX3_parse (N : Nat) (T : RS) (Q : Int32 → RS → Prop) : Prop :=
  (∀ T1 : RS, T1 = sI T 2 0 → (∀ T2 : RS, T2 = sI T1 3 (-1) → (∀ T3 : RS, T3 = sI T2 5 0 → (∀ T4 : RS, T4 = sL T3 7 0 → (fX3_look N T4 (fun r5 => ((¬ r5 = 33 → (fX3_either N T4 0 (fun r7 T8 => (∀ T9 : RS, T9 = sL T8 6 r7 → (fX3_readSort N T9 (fun r10 T11 => (∀ T12 : RS, T12 = sI T11 4 r10 → (fX3_either N T12 0 (fun r13 T14 => (∀ T15 : RS, T15 = sL T14 7 r13 → (fX3_readDigit N T15 (fun r16 T17 => (∀ T18 : RS, T18 = sI T17 5 r16 → (fX3_parse_90 N T18 Q)))))))))))))) ∧ (r5 = 33 → (∀ T23 : RS, T23 = sI T4 2 ((T4.1 2) + (1 : Int32)) → (∀ T24 : RS, T24 = sI T23 4 0 → (fX3_either N T24 0 (fun r25 T26 => (∀ T27 : RS, T27 = sL T26 6 r25 → (fX3_parse_90 N T27 Q))))))))))))))
set_option maxRecDepth 100000 in
set_option maxHeartbeats 4000000 in
theorem tX3_parse (l : Launch) (g : Gx) (a : Nat → Nat) (T : RS) (N : Nat) (Q : Int32 → RS → Prop) (h : fX3_parse N T Q) : MetG l g yX3_parse wsX3_parse rmX3_parse [.ref (a 50)] (tW g a T) (fun u : RS => tW g a u) (qI (fun (r : Int32) (u : RS) => Q r u)) 0 0 := by
  refine met_of (cc := cX3_parse) (own := RX3) (nL := 1) (ret := (some .int)) (lv := [(0, .ref (a 50))]) (by decide) rfl rfl (Nat.le_of_ble_eq_true rfl) rfl ?_
  intro x C hl hZ
  subst hl
  unfold fX3_parse at h
  refine r_aload_n C dX3_parse_0 rfl ?_
  refine r_iconst (v := 0) C dX3_parse_1 (by decide) ?_
  obtain ⟨T1, hT1⟩ : ∃ z : RS, z = sI T 2 0 := ⟨_, rfl⟩
  have h := h T1 hT1
  refine r_put (cn := RX3) (T := TX3) (N := 8) (ci := 3) (ws' := tW g a T1) C uwX3_parse_3 tyX3 tyX3_ok nmX3 0 rfl rfl 2 (by decide) kwX3_parse_0 rfl rfl rfl (Nat.le_of_ble_eq_true rfl) dX3_parse_2 (by rw [hT1]; rfl) ?_
  refine r_aload_n C dX3_parse_5 rfl ?_
  refine r_iconst (v := (-1)) C dX3_parse_6 (by decide) ?_
  obtain ⟨T2, hT2⟩ : ∃ z : RS, z = sI T1 3 (-1) := ⟨_, rfl⟩
  have h := h T2 hT2
  refine r_put (cn := RX3) (T := TX3) (N := 8) (ci := 3) (ws' := tW g a T2) C uwX3_parse_3 tyX3 tyX3_ok nmX3 0 rfl rfl 3 (by decide) kwX3_parse_2 rfl rfl rfl (Nat.le_of_ble_eq_true rfl) dX3_parse_7 (by rw [hT2]; rfl) ?_
  refine r_aload_n C dX3_parse_10 rfl ?_
  refine r_iconst (v := 0) C dX3_parse_11 (by decide) ?_
  obtain ⟨T3, hT3⟩ : ∃ z : RS, z = sI T2 5 0 := ⟨_, rfl⟩
  have h := h T3 hT3
  refine r_put (cn := RX3) (T := TX3) (N := 8) (ci := 3) (ws' := tW g a T3) C uwX3_parse_3 tyX3 tyX3_ok nmX3 0 rfl rfl 5 (by decide) kwX3_parse_3 rfl rfl rfl (Nat.le_of_ble_eq_true rfl) dX3_parse_12 (by rw [hT3]; rfl) ?_
  refine r_aload_n C dX3_parse_15 rfl ?_
  refine r_lconst (v := 0) C dX3_parse_16 (by decide) ?_
  obtain ⟨T4, hT4⟩ : ∃ z : RS, z = sL T3 7 0 := ⟨_, rfl⟩
  have h := h T4 hT4
  refine r_put (cn := RX3) (T := TX3) (N := 8) (ci := 3) (ws' := tW g a T4) C uwX3_parse_3 tyX3 tyX3_ok nmX3 0 rfl rfl 7 (by decide) kwX3_parse_4 rfl rfl rfl (Nat.le_of_ble_eq_true rfl) dX3_parse_17 (by rw [hT4]; rfl) ?_
  refine r_aload_n C dX3_parse_20 rfl ?_
  refine callR_I C (run_V (As := []) (rest := []) (ci := 3) C hZ.2.2 (tX3_look _ g a T4 N _ h) gX3_parse_X3_look rfl dsX3_look rfl rfl ⟨(Nat.le_of_ble_eq_true rfl), (Nat.le_of_ble_eq_true rfl)⟩ rfl (List.mem_of_getElem? (i := 0) rfl) rfl (Nat.le_of_ble_eq_true rfl) dX3_parse_21 ⟨Nat.zero_le _, Nat.zero_le _⟩) (List.Sublist.refl _) (fun _ => rfl) (fun r5 _ h => ?_)
  refine r_bipush (v := 33) C dX3_parse_24 (by decide) ?_
  refine r_icmp_ne (tgt := 56) C dX3_parse_26 (by decide) (fun c6 => ?_) (fun c6 => ?_)
  · have h := h.1 c6
    refine r_aload_n C dX3_parse_56 rfl ?_
    refine r_aload_n C dX3_parse_57 rfl ?_
    refine r_iconst (v := 0) C dX3_parse_58 (by decide) ?_
    refine callW_L C (run_V (As := [.int 0]) (rest := [.ref (a 50)]) (ci := 3) C hZ.2.2 (tX3_either _ g a T4 N 0 _ h) gX3_parse_X3_either rfl dsX3_either rfl rfl ⟨(Nat.le_of_ble_eq_true rfl), (Nat.le_of_ble_eq_true rfl)⟩ rfl (List.mem_of_getElem? (i := 0) rfl) rfl (Nat.le_of_ble_eq_true rfl) dX3_parse_59 ⟨Nat.zero_le _, Nat.zero_le _⟩) (fun r7 T8 h => ?_)
    show St x 0 0 (tW g a T8) _ _ 62
    obtain ⟨T9, hT9⟩ : ∃ z : RS, z = sL T8 6 r7 := ⟨_, rfl⟩
    have h := h T9 hT9
    refine r_put (cn := RX3) (T := TX3) (N := 8) (ci := 3) (ws' := tW g a T9) C uwX3_parse_3 tyX3 tyX3_ok nmX3 0 rfl rfl 6 (by decide) kwX3_parse_5 rfl rfl rfl (Nat.le_of_ble_eq_true rfl) dX3_parse_62 (by rw [hT9]; rfl) ?_
    refine r_aload_n C dX3_parse_65 rfl ?_
    refine r_aload_n C dX3_parse_66 rfl ?_
    refine callW_I C (run_V (As := []) (rest := [.ref (a 50)]) (ci := 3) C hZ.2.2 (tX3_readSort _ g a T9 N _ h) gX3_parse_X3_readSort rfl dsX3_readSort rfl rfl ⟨(Nat.le_of_ble_eq_true rfl), (Nat.le_of_ble_eq_true rfl)⟩ rfl (List.mem_of_getElem? (i := 0) rfl) rfl (Nat.le_of_ble_eq_true rfl) dX3_parse_67 ⟨Nat.zero_le _, Nat.zero_le _⟩) (fun r10 T11 h => ?_)
    show St x 0 0 (tW g a T11) _ _ 70
    obtain ⟨T12, hT12⟩ : ∃ z : RS, z = sI T11 4 r10 := ⟨_, rfl⟩
    have h := h T12 hT12
    refine r_put (cn := RX3) (T := TX3) (N := 8) (ci := 3) (ws' := tW g a T12) C uwX3_parse_3 tyX3 tyX3_ok nmX3 0 rfl rfl 4 (by decide) kwX3_parse_6 rfl rfl rfl (Nat.le_of_ble_eq_true rfl) dX3_parse_70 (by rw [hT12]; rfl) ?_
    refine r_aload_n C dX3_parse_73 rfl ?_
    refine r_aload_n C dX3_parse_74 rfl ?_
    refine r_iconst (v := 0) C dX3_parse_75 (by decide) ?_
    refine callW_L C (run_V (As := [.int 0]) (rest := [.ref (a 50)]) (ci := 3) C hZ.2.2 (tX3_either _ g a T12 N 0 _ h) gX3_parse_X3_either rfl dsX3_either rfl rfl ⟨(Nat.le_of_ble_eq_true rfl), (Nat.le_of_ble_eq_true rfl)⟩ rfl (List.mem_of_getElem? (i := 0) rfl) rfl (Nat.le_of_ble_eq_true rfl) dX3_parse_76 ⟨Nat.zero_le _, Nat.zero_le _⟩) (fun r13 T14 h => ?_)
    show St x 0 0 (tW g a T14) _ _ 79
    obtain ⟨T15, hT15⟩ : ∃ z : RS, z = sL T14 7 r13 := ⟨_, rfl⟩
    have h := h T15 hT15
    refine r_put (cn := RX3) (T := TX3) (N := 8) (ci := 3) (ws' := tW g a T15) C uwX3_parse_3 tyX3 tyX3_ok nmX3 0 rfl rfl 7 (by decide) kwX3_parse_4 rfl rfl rfl (Nat.le_of_ble_eq_true rfl) dX3_parse_79 (by rw [hT15]; rfl) ?_
    refine r_aload_n C dX3_parse_82 rfl ?_
    refine r_aload_n C dX3_parse_83 rfl ?_
    refine callW_I C (run_V (As := []) (rest := [.ref (a 50)]) (ci := 3) C hZ.2.2 (tX3_readDigit _ g a T15 N _ h) gX3_parse_X3_readDigit rfl dsX3_readDigit rfl rfl ⟨(Nat.le_of_ble_eq_true rfl), (Nat.le_of_ble_eq_true rfl)⟩ rfl (List.mem_of_getElem? (i := 0) rfl) rfl (Nat.le_of_ble_eq_true rfl) dX3_parse_84 ⟨Nat.zero_le _, Nat.zero_le _⟩) (fun r16 T17 h => ?_)
    show St x 0 0 (tW g a T17) _ _ 87
    obtain ⟨T18, hT18⟩ : ∃ z : RS, z = sI T17 5 r16 := ⟨_, rfl⟩
    have h := h T18 hT18
    refine r_put (cn := RX3) (T := TX3) (N := 8) (ci := 3) (ws' := tW g a T18) C uwX3_parse_3 tyX3 tyX3_ok nmX3 0 rfl rfl 5 (by decide) kwX3_parse_3 rfl rfl rfl (Nat.le_of_ble_eq_true rfl) dX3_parse_87 (by rw [hT18]; rfl) ?_
    exact wfX3_parse_90 C hZ h
  · have h := h.2 c6
    refine r_aload_n C dX3_parse_29 rfl ?_
    refine r_dup C dX3_parse_30 rfl ?_
    refine r_get (cn := RX3) (T := TX3) (N := 8) (ci := 3) C uwX3_parse_3 0 rfl rfl 2 (by decide) kwX3_parse_0 (v := .int (T4.1 2)) rfl dX3_parse_31 ?_
    refine r_iconst (v := 1) C dX3_parse_34 (by decide) ?_
    refine r_iadd C dX3_parse_35 ?_
    obtain ⟨T23, hT23⟩ : ∃ z : RS, z = sI T4 2 ((T4.1 2) + (1 : Int32)) := ⟨_, rfl⟩
    have h := h T23 hT23
    refine r_put (cn := RX3) (T := TX3) (N := 8) (ci := 3) (ws' := tW g a T23) C uwX3_parse_3 tyX3 tyX3_ok nmX3 0 rfl rfl 2 (by decide) kwX3_parse_0 rfl rfl rfl (Nat.le_of_ble_eq_true rfl) dX3_parse_36 (by rw [hT23]; rfl) ?_
    refine r_aload_n C dX3_parse_39 rfl ?_
    refine r_iconst (v := 0) C dX3_parse_40 (by decide) ?_
    obtain ⟨T24, hT24⟩ : ∃ z : RS, z = sI T23 4 0 := ⟨_, rfl⟩
    have h := h T24 hT24
    refine r_put (cn := RX3) (T := TX3) (N := 8) (ci := 3) (ws' := tW g a T24) C uwX3_parse_3 tyX3 tyX3_ok nmX3 0 rfl rfl 4 (by decide) kwX3_parse_6 rfl rfl rfl (Nat.le_of_ble_eq_true rfl) dX3_parse_41 (by rw [hT24]; rfl) ?_
    refine r_aload_n C dX3_parse_44 rfl ?_
    refine r_aload_n C dX3_parse_45 rfl ?_
    refine r_iconst (v := 0) C dX3_parse_46 (by decide) ?_
    refine callW_L C (run_V (As := [.int 0]) (rest := [.ref (a 50)]) (ci := 3) C hZ.2.2 (tX3_either _ g a T24 N 0 _ h) gX3_parse_X3_either rfl dsX3_either rfl rfl ⟨(Nat.le_of_ble_eq_true rfl), (Nat.le_of_ble_eq_true rfl)⟩ rfl (List.mem_of_getElem? (i := 0) rfl) rfl (Nat.le_of_ble_eq_true rfl) dX3_parse_47 ⟨Nat.zero_le _, Nat.zero_le _⟩) (fun r25 T26 h => ?_)
    show St x 0 0 (tW g a T26) _ _ 50
    obtain ⟨T27, hT27⟩ : ∃ z : RS, z = sL T26 6 r25 := ⟨_, rfl⟩
    have h := h T27 hT27
    refine r_put (cn := RX3) (T := TX3) (N := 8) (ci := 3) (ws' := tW g a T27) C uwX3_parse_3 tyX3 tyX3_ok nmX3 0 rfl rfl 6 (by decide) kwX3_parse_5 rfl rfl rfl (Nat.le_of_ble_eq_true rfl) dX3_parse_50 (by rw [hT27]; rfl) ?_
    refine r_goto (tgt := 90) C dX3_parse_53 (by decide) ?_
    exact wfX3_parse_90 C hZ h
def rmX2_add : Room := { frames := 0, cells := 0, slots := 0, locals := 0 }
theorem kwX2_add_0 : Cond.fieldLink RX2 15 "WantsBench$Parts" "size" "I" ∈ wsX2_add := by decide +kernel
theorem uwX2_add_2 : ∀ w ∈ wsX20, w ∈ wsX2_add := by decide +kernel
def fX2_add (N : Nat) (P : RS) (Q : Int32 → RS → Prop) : Prop :=
  (((P.1 1) < 20 → (∀ P2 : RS, P2 = sI P 1 ((P.1 1) + (1 : Int32)) → Q ((P2.1 1) - (1 : Int32)) P2)) ∧ (¬ (P.1 1) < 20 → Q (-2) P))
set_option maxRecDepth 100000 in
set_option maxHeartbeats 4000000 in
theorem tX2_add (l : Launch) (g : Gx) (a : Nat → Nat) (P : RS) (N : Nat) (Q : Int32 → RS → Prop) (h : fX2_add N P Q) : MetG l g yX2_add wsX2_add rmX2_add [.ref (a 50)] (pW g a P) (fun u : RS => pW g a u) (qI (fun (r : Int32) (u : RS) => Q r u)) 0 0 := by
  refine met_of (cc := cX2_add) (own := RX2) (nL := 1) (ret := (some .int)) (lv := [(0, .ref (a 50))]) (by decide) rfl rfl (Nat.le_of_ble_eq_true rfl) rfl ?_
  intro x C hl hZ
  subst hl
  unfold fX2_add at h
  refine r_aload_n C dX2_add_0 rfl ?_
  refine r_get (cn := RX2) (T := TX2) (N := 2) (ci := 2) C uwX2_add_2 0 rfl rfl 1 (by decide) kwX2_add_0 (v := .int (P.1 1)) rfl dX2_add_1 ?_
  refine r_bipush (v := 20) C dX2_add_4 (by decide) ?_
  refine r_icmp_lt (tgt := 12) C dX2_add_6 (by decide) (fun c1 => ?_) (fun c1 => ?_)
  · have h := h.1 c1
    refine r_aload_n C dX2_add_12 rfl ?_
    refine r_dup C dX2_add_13 rfl ?_
    refine r_get (cn := RX2) (T := TX2) (N := 2) (ci := 2) C uwX2_add_2 0 rfl rfl 1 (by decide) kwX2_add_0 (v := .int (P.1 1)) rfl dX2_add_14 ?_
    refine r_iconst (v := 1) C dX2_add_17 (by decide) ?_
    refine r_iadd C dX2_add_18 ?_
    obtain ⟨P2, hP2⟩ : ∃ z : RS, z = sI P 1 ((P.1 1) + (1 : Int32)) := ⟨_, rfl⟩
    have h := h P2 hP2
    refine r_put (cn := RX2) (T := TX2) (N := 2) (ci := 2) (ws' := pW g a P2) C uwX2_add_2 tyX2 tyX2_ok nmX2 0 rfl rfl 1 (by decide) kwX2_add_0 rfl rfl rfl (Nat.le_of_ble_eq_true rfl) dX2_add_19 (by rw [hP2]; rfl) ?_
    refine r_aload_n C dX2_add_22 rfl ?_
    refine r_get (cn := RX2) (T := TX2) (N := 2) (ci := 2) C uwX2_add_2 0 rfl rfl 1 (by decide) kwX2_add_0 (v := .int (P2.1 1)) rfl dX2_add_23 ?_
    refine r_iconst (v := 1) C dX2_add_26 (by decide) ?_
    refine r_isub C dX2_add_27 ?_
    exact r_iret C hZ (u := P2) h rfl dX2_add_28
  · have h := h.2 c1
    refine r_bipush (v := (-2)) C dX2_add_9 (by decide) ?_
    exact r_iret C hZ (u := P) h rfl dX2_add_11
def rmX2_has : Room := { frames := 0, cells := 0, slots := 0, locals := 0 }
theorem kwX2_has_0 : Cond.fieldLink RX2 15 "WantsBench$Parts" "size" "I" ∈ wsX2_has := by decide +kernel
theorem uwX2_has_2 : ∀ w ∈ wsX20, w ∈ wsX2_has := by decide +kernel
def fX2_has (N : Nat) (P : RS) (v1 : Int32) (Q : Int32 → Prop) : Prop :=
  ((v1 < 0 → Q 0) ∧ (¬ v1 < 0 → (((P.1 1) ≤ v1 → Q 0) ∧ (¬ (P.1 1) ≤ v1 → Q 1))))
set_option maxRecDepth 100000 in
set_option maxHeartbeats 4000000 in
theorem tX2_has (l : Launch) (g : Gx) (a : Nat → Nat) (P : RS) (N : Nat) (v1 : Int32) (Q : Int32 → Prop) (h : fX2_has N P v1 Q) : MetG l g yX2_has wsX2_has rmX2_has [.ref (a 50), .int v1] (pW g a P) (fun _ : Unit => pW g a P) (qI (fun (r : Int32) (_ : Unit) => Q r)) 0 0 := by
  refine met_of (cc := cX2_has) (own := RX2) (nL := 2) (ret := (some .boolean)) (lv := [(0, .ref (a 50)), (1, .int v1)]) (by decide) rfl rfl (Nat.le_of_ble_eq_true rfl) rfl ?_
  intro x C hl hZ
  subst hl
  unfold fX2_has at h
  refine r_iload_n C dX2_has_0 rfl ?_
  refine r_if_lt (tgt := 16) C dX2_has_1 (by decide) (fun c1 => ?_) (fun c1 => ?_)
  · have h := h.1 c1
    refine r_iconst (v := 0) C dX2_has_16 (by decide) ?_
    exact r_zret C hZ (u := ()) (by decide) h rfl dX2_has_17
  · have h := h.2 c1
    refine r_iload_n C dX2_has_4 rfl ?_
    refine r_aload_n C dX2_has_5 rfl ?_
    refine r_get (cn := RX2) (T := TX2) (N := 2) (ci := 2) C uwX2_has_2 0 rfl rfl 1 (by decide) kwX2_has_0 (v := .int (P.1 1)) rfl dX2_has_6 ?_
    refine r_icmp_ge (tgt := 16) C dX2_has_9 (by decide) (fun c2 => ?_) (fun c2 => ?_)
    · have h := h.1 c2
      refine r_iconst (v := 0) C dX2_has_16 (by decide) ?_
      exact r_zret C hZ (u := ()) (by decide) h rfl dX2_has_17
    · have h := h.2 c2
      refine r_iconst (v := 1) C dX2_has_12 (by decide) ?_
      refine r_goto (tgt := 17) C dX2_has_13 (by decide) ?_
      exact r_zret C hZ (u := ()) (by decide) h rfl dX2_has_17
def rmX2_all : Room := { frames := 0, cells := 0, slots := 0, locals := 0 }
theorem kwX2_all_0 : Cond.fieldLink RX2 15 "WantsBench$Parts" "size" "I" ∈ wsX2_all := by decide +kernel
theorem uwX2_all_2 : ∀ w ∈ wsX20, w ∈ wsX2_all := by decide +kernel
def fX2_all (N : Nat) (P : RS) (Q : Int32 → Prop) : Prop :=
  Q (((1 : Int32) <<< ((P.1 1) &&& 31)) - (1 : Int32))
set_option maxRecDepth 100000 in
set_option maxHeartbeats 4000000 in
theorem tX2_all (l : Launch) (g : Gx) (a : Nat → Nat) (P : RS) (N : Nat) (Q : Int32 → Prop) (h : fX2_all N P Q) : MetG l g yX2_all wsX2_all rmX2_all [.ref (a 50)] (pW g a P) (fun _ : Unit => pW g a P) (qI (fun (r : Int32) (_ : Unit) => Q r)) 0 0 := by
  refine met_of (cc := cX2_all) (own := RX2) (nL := 1) (ret := (some .int)) (lv := [(0, .ref (a 50))]) (by decide) rfl rfl (Nat.le_of_ble_eq_true rfl) rfl ?_
  intro x C hl hZ
  subst hl
  unfold fX2_all at h
  refine r_iconst (v := 1) C dX2_all_0 (by decide) ?_
  refine r_aload_n C dX2_all_1 rfl ?_
  refine r_get (cn := RX2) (T := TX2) (N := 2) (ci := 2) C uwX2_all_2 0 rfl rfl 1 (by decide) kwX2_all_0 (v := .int (P.1 1)) rfl dX2_all_2 ?_
  refine r_ishl C dX2_all_5 ?_
  refine r_iconst (v := 1) C dX2_all_6 (by decide) ?_
  refine r_isub C dX2_all_7 ?_
  exact r_iret C hZ (u := ()) h rfl dX2_all_8
def rmX5_isIn : Room := { frames := 0, cells := 0, slots := 0, locals := 0 }
def fX5_isIn (N : Nat) (v0 : Int32) (v1 : Int32) (Q : Int32 → Prop) : Prop :=
  ((¬ (((v0.toUInt32 >>> (v1.toUInt32 &&& Int32.toUInt32 31)).toInt32) &&& (1 : Int32)) = 1 → Q 0) ∧ ((((v0.toUInt32 >>> (v1.toUInt32 &&& Int32.toUInt32 31)).toInt32) &&& (1 : Int32)) = 1 → Q 1))
set_option maxRecDepth 100000 in
set_option maxHeartbeats 4000000 in
theorem tX5_isIn (l : Launch) (g : Gx) (N : Nat) (v0 : Int32) (v1 : Int32) (Q : Int32 → Prop) (h : fX5_isIn N v0 v1 Q) : MetG l g yX5_isIn wsX5_isIn rmX5_isIn [.int v0, .int v1] (([] : va_W)) (fun _ : Unit => ([] : va_W)) (qI (fun (r : Int32) (_ : Unit) => Q r)) 0 0 := by
  refine met_of (cc := cX5_isIn) (own := RX5) (nL := 2) (ret := (some .boolean)) (lv := [(0, .int v0), (1, .int v1)]) (by decide) rfl rfl (Nat.le_of_ble_eq_true rfl) rfl ?_
  intro x C hl hZ
  subst hl
  unfold fX5_isIn at h
  refine r_iload_n C dX5_isIn_0 rfl ?_
  refine r_iload_n C dX5_isIn_1 rfl ?_
  refine r_iushr C dX5_isIn_2 ?_
  refine r_iconst (v := 1) C dX5_isIn_3 (by decide) ?_
  refine r_iand C dX5_isIn_4 ?_
  refine r_iconst (v := 1) C dX5_isIn_5 (by decide) ?_
  refine r_icmp_ne (tgt := 13) C dX5_isIn_6 (by decide) (fun c1 => ?_) (fun c1 => ?_)
  · have h := h.1 c1
    refine r_iconst (v := 0) C dX5_isIn_13 (by decide) ?_
    exact r_zret C hZ (u := ()) (by decide) h rfl dX5_isIn_14
  · have h := h.2 c1
    refine r_iconst (v := 1) C dX5_isIn_9 (by decide) ?_
    refine r_goto (tgt := 14) C dX5_isIn_10 (by decide) ?_
    exact r_zret C hZ (u := ()) (by decide) h rfl dX5_isIn_14
def rmX5_bit : Room := { frames := 0, cells := 0, slots := 0, locals := 0 }
def fX5_bit (N : Nat) (v0 : Int32) (Q : Int32 → Prop) : Prop :=
  ((v0 = 0 → Q 0) ∧ (¬ v0 = 0 → Q 1))
set_option maxRecDepth 100000 in
set_option maxHeartbeats 4000000 in
theorem tX5_bit (l : Launch) (g : Gx) (N : Nat) (v0 : Int32) (Q : Int32 → Prop) (h : fX5_bit N v0 Q) : MetG l g yX5_bit wsX5_bit rmX5_bit [.int v0] (([] : va_W)) (fun _ : Unit => ([] : va_W)) (qI (fun (r : Int32) (_ : Unit) => Q r)) 0 0 := by
  refine met_of (cc := cX5_bit) (own := RX5) (nL := 1) (ret := (some .int)) (lv := [(0, .int v0)]) (by decide) rfl rfl (Nat.le_of_ble_eq_true rfl) rfl ?_
  intro x C hl hZ
  subst hl
  unfold fX5_bit at h
  refine r_iload_n C dX5_bit_0 rfl ?_
  refine r_if_eq (tgt := 8) C dX5_bit_1 (by decide) (fun c1 => ?_) (fun c1 => ?_)
  · have h := h.1 c1
    refine r_iconst (v := 0) C dX5_bit_8 (by decide) ?_
    exact r_iret C hZ (u := ()) h rfl dX5_bit_9
  · have h := h.2 c1
    refine r_iconst (v := 1) C dX5_bit_4 (by decide) ?_
    refine r_goto (tgt := 9) C dX5_bit_5 (by decide) ?_
    exact r_iret C hZ (u := ()) h rfl dX5_bit_9
def rmX5_withBit : Room := { frames := 0, cells := 0, slots := 0, locals := 0 }
def fX5_withBit (N : Nat) (v0 : Int32) (v1 : Int32) (v2 : Int32) (Q : Int32 → Prop) : Prop :=
  ((¬ v2 = 1 → Q (v0 &&& (((1 : Int32) <<< (v1 &&& 31)) ^^^ (-1 : Int32)))) ∧ (v2 = 1 → Q (v0 ||| ((1 : Int32) <<< (v1 &&& 31)))))
set_option maxRecDepth 100000 in
set_option maxHeartbeats 4000000 in
theorem tX5_withBit (l : Launch) (g : Gx) (N : Nat) (v0 : Int32) (v1 : Int32) (v2 : Int32) (Q : Int32 → Prop) (h : fX5_withBit N v0 v1 v2 Q) : MetG l g yX5_withBit wsX5_withBit rmX5_withBit [.int v0, .int v1, .int v2] (([] : va_W)) (fun _ : Unit => ([] : va_W)) (qI (fun (r : Int32) (_ : Unit) => Q r)) 0 0 := by
  refine met_of (cc := cX5_withBit) (own := RX5) (nL := 3) (ret := (some .int)) (lv := [(0, .int v0), (1, .int v1), (2, .int v2)]) (by decide) rfl rfl (Nat.le_of_ble_eq_true rfl) rfl ?_
  intro x C hl hZ
  subst hl
  unfold fX5_withBit at h
  refine r_iload_n C dX5_withBit_0 rfl ?_
  refine r_iconst (v := 1) C dX5_withBit_1 (by decide) ?_
  refine r_icmp_ne (tgt := 13) C dX5_withBit_2 (by decide) (fun c1 => ?_) (fun c1 => ?_)
  · have h := h.1 c1
    refine r_iload_n C dX5_withBit_13 rfl ?_
    refine r_iconst (v := 1) C dX5_withBit_14 (by decide) ?_
    refine r_iload_n C dX5_withBit_15 rfl ?_
    refine r_ishl C dX5_withBit_16 ?_
    refine r_iconst (v := (-1)) C dX5_withBit_17 (by decide) ?_
    refine r_ixor C dX5_withBit_18 ?_
    refine r_iand C dX5_withBit_19 ?_
    exact r_iret C hZ (u := ()) h rfl dX5_withBit_20
  · have h := h.2 c1
    refine r_iload_n C dX5_withBit_5 rfl ?_
    refine r_iconst (v := 1) C dX5_withBit_6 (by decide) ?_
    refine r_iload_n C dX5_withBit_7 rfl ?_
    refine r_ishl C dX5_withBit_8 ?_
    refine r_ior C dX5_withBit_9 ?_
    refine r_goto (tgt := 20) C dX5_withBit_10 (by decide) ?_
    exact r_iret C hZ (u := ()) h rfl dX5_withBit_20
def rmX2_link : Room := { frames := 1, cells := 0, slots := 0, locals := 22 }
theorem kwX2_link_0 : Cond.fieldLink RX2 11 "WantsBench$Parts" "uses" "[I" ∈ wsX2_link := by decide +kernel
theorem uwX2_link_2 : ∀ w ∈ wsX20, w ∈ wsX2_link := by decide +kernel
theorem kwX2_link_2 : Cond.initialized RX5 ∈ wsX2_link := by decide +kernel
theorem kwX2_link_3 : Cond.static yX5_isIn ∈ wsX2_link := by decide +kernel
theorem kwX2_link_4 : Cond.static yX5_bit ∈ wsX2_link := by decide +kernel
theorem kwX2_link_5 : Cond.static yX5_withBit ∈ wsX2_link := by decide +kernel
def fX2_link (N : Nat) (P : RS) (v1 : Int32) (v2 : Int32) (v3 : Int32) (Q : Int32 → RS → Prop) : Prop :=
  (fX2_has N P v1 (fun r1 => ((r1 = 0 → Q (-1) P) ∧ (¬ r1 = 0 → (fX2_has N P v2 (fun r3 => ((r3 = 0 → Q (-1) P) ∧ (¬ r3 = 0 → ((v2 < v1 → (vp_in v1 20 ∧ (fX5_isIn N (P.2.1 0 v1.toNatClampNeg) v2 (fun r7 => (fX5_bit N r7 (fun r8 => (vp_in v1 20 ∧ (fX5_withBit N (P.2.1 0 v1.toNatClampNeg) v2 v3 (fun r10 => (vp_in v1 20 ∧ (∀ P12 : RS, P12 = sA P 0 (upd (P.2.1 0) v1.toNatClampNeg r10) → Q r8 P12))))))))))) ∧ (¬ v2 < v1 → Q (-1) P))))))))))
set_option maxRecDepth 100000 in
set_option maxHeartbeats 4000000 in
theorem tX2_link (l : Launch) (g : Gx) (a : Nat → Nat) (P : RS) (N : Nat) (v1 : Int32) (v2 : Int32) (v3 : Int32) (Q : Int32 → RS → Prop) (h : fX2_link N P v1 v2 v3 Q) : MetG l g yX2_link wsX2_link rmX2_link [.ref (a 50), .int v1, .int v2, .int v3] (pW g a P) (fun u : RS => pW g a u) (qI (fun (r : Int32) (u : RS) => Q r u)) 0 0 := by
  refine met_of (cc := cX2_link) (own := RX2) (nL := 5) (ret := (some .int)) (lv := [(0, .ref (a 50)), (1, .int v1), (2, .int v2), (3, .int v3)]) (by decide) rfl rfl (Nat.le_of_ble_eq_true rfl) rfl ?_
  intro x C hl hZ
  subst hl
  unfold fX2_link at h
  refine r_aload_n C dX2_link_0 rfl ?_
  refine r_iload_n C dX2_link_1 rfl ?_
  refine callR_I C (run_V (As := [.int v1]) (rest := []) (ci := 2) C hZ.2.2 (tX2_has _ g a P N v1 _ h) gX2_link_X2_has rfl dsX2_has rfl rfl ⟨(Nat.le_of_ble_eq_true rfl), (Nat.le_of_ble_eq_true rfl)⟩ rfl (List.mem_of_getElem? (i := 0) rfl) rfl (Nat.le_of_ble_eq_true rfl) dX2_link_2 ⟨Nat.zero_le _, Nat.zero_le _⟩) (List.Sublist.refl _) (fun _ => rfl) (fun r1 _ h => ?_)
  refine r_if_eq (tgt := 21) C dX2_link_5 (by decide) (fun c2 => ?_) (fun c2 => ?_)
  · have h := h.1 c2
    refine r_iconst (v := (-1)) C dX2_link_21 (by decide) ?_
    exact r_iret C hZ (u := P) h rfl dX2_link_22
  · have h := h.2 c2
    refine r_aload_n C dX2_link_8 rfl ?_
    refine r_iload_n C dX2_link_9 rfl ?_
    refine callR_I C (run_V (As := [.int v2]) (rest := []) (ci := 2) C hZ.2.2 (tX2_has _ g a P N v2 _ h) gX2_link_X2_has rfl dsX2_has rfl rfl ⟨(Nat.le_of_ble_eq_true rfl), (Nat.le_of_ble_eq_true rfl)⟩ rfl (List.mem_of_getElem? (i := 0) rfl) rfl (Nat.le_of_ble_eq_true rfl) dX2_link_10 ⟨Nat.zero_le _, Nat.zero_le _⟩) (List.Sublist.refl _) (fun _ => rfl) (fun r3 _ h => ?_)
    refine r_if_eq (tgt := 21) C dX2_link_13 (by decide) (fun c4 => ?_) (fun c4 => ?_)
    · have h := h.1 c4
      refine r_iconst (v := (-1)) C dX2_link_21 (by decide) ?_
      exact r_iret C hZ (u := P) h rfl dX2_link_22
    · have h := h.2 c4
      refine r_iload_n C dX2_link_16 rfl ?_
      refine r_iload_n C dX2_link_17 rfl ?_
      refine r_icmp_lt (tgt := 23) C dX2_link_18 (by decide) (fun c5 => ?_) (fun c5 => ?_)
      · have h := h.1 c5
        refine r_aload_n C dX2_link_23 rfl ?_
        refine r_get (cn := RX2) (T := TX2) (N := 2) (ci := 2) C uwX2_link_2 0 rfl rfl 0 (by decide) kwX2_link_0 (v := .ref (a 0)) rfl dX2_link_24 ?_
        refine r_iload_n C dX2_link_27 rfl ?_
        obtain ⟨hi6, h⟩ := h
        refine r_iald C 1 rfl hi6 dX2_link_28 ?_
        refine r_iload_n C dX2_link_29 rfl ?_
        refine callR_I C (run_SN (As := [.int (P.2.1 0 v1.toNatClampNeg), .int v2]) (rest := []) C hZ.2.2 (tX5_isIn _ g N (P.2.1 0 v1.toNatClampNeg) v2 _ h) gX2_link_X5_isIn_n23 (host := RX5) (by decide +kernel) kwX2_link_2 kwX2_link_3 rfl dsX5_isIn rfl rfl ⟨(Nat.le_of_ble_eq_true rfl), (Nat.le_of_ble_eq_true rfl)⟩ rfl (Nat.le_of_ble_eq_true rfl) dX2_link_30 ⟨Nat.zero_le _, Nat.zero_le _⟩) (List.nil_sublist _) (fun _ => rfl) (fun r7 _ h => ?_)
        refine callR_I C (run_SN (As := [.int r7]) (rest := []) C hZ.2.2 (tX5_bit _ g N r7 _ h) gX2_link_X5_bit_n27 (host := RX5) (by decide +kernel) kwX2_link_2 kwX2_link_4 rfl dsX5_bit rfl rfl ⟨(Nat.le_of_ble_eq_true rfl), (Nat.le_of_ble_eq_true rfl)⟩ rfl (Nat.le_of_ble_eq_true rfl) dX2_link_33 ⟨Nat.zero_le _, Nat.zero_le _⟩) (List.nil_sublist _) (fun _ => rfl) (fun r8 _ h => ?_)
        refine r_istore (lv' := [(0, .ref (a 50)), (1, .int v1), (2, .int v2), (3, .int v3), (4, .int r8)]) C dX2_link_36 [some 0, some 1, some 2, some 3, none] (by decide) rfl rfl ?_
        refine r_aload_n C dX2_link_38 rfl ?_
        refine r_get (cn := RX2) (T := TX2) (N := 2) (ci := 2) C uwX2_link_2 0 rfl rfl 0 (by decide) kwX2_link_0 (v := .ref (a 0)) rfl dX2_link_39 ?_
        refine r_iload_n C dX2_link_42 rfl ?_
        refine r_aload_n C dX2_link_43 rfl ?_
        refine r_get (cn := RX2) (T := TX2) (N := 2) (ci := 2) C uwX2_link_2 0 rfl rfl 0 (by decide) kwX2_link_0 (v := .ref (a 0)) rfl dX2_link_44 ?_
        refine r_iload_n C dX2_link_47 rfl ?_
        obtain ⟨hi9, h⟩ := h
        refine r_iald C 1 rfl hi9 dX2_link_48 ?_
        refine r_iload_n C dX2_link_49 rfl ?_
        refine r_iload_n C dX2_link_50 rfl ?_
        refine callR_I C (run_SN (As := [.int (P.2.1 0 v1.toNatClampNeg), .int v2, .int v3]) (rest := [.int v1, .ref (a 0)]) C hZ.2.2 (tX5_withBit _ g N (P.2.1 0 v1.toNatClampNeg) v2 v3 _ h) gX2_link_X5_withBit_n31 (host := RX5) (by decide +kernel) kwX2_link_2 kwX2_link_5 rfl dsX5_withBit rfl rfl ⟨(Nat.le_of_ble_eq_true rfl), (Nat.le_of_ble_eq_true rfl)⟩ rfl (Nat.le_of_ble_eq_true rfl) dX2_link_51 ⟨Nat.zero_le _, Nat.zero_le _⟩) (List.nil_sublist _) (fun _ => rfl) (fun r10 _ h => ?_)
        obtain ⟨hi11, h⟩ := h
        obtain ⟨P12, hP12⟩ : ∃ z : RS, z = sA P 0 (upd (P.2.1 0) v1.toNatClampNeg r10) := ⟨_, rfl⟩
        have h := h P12 hP12
        refine r_iast (ws' := pW g a P12) C 1 rfl hi11 dX2_link_54 (by rw [hP12]; rfl) ?_
        refine r_iload C dX2_link_55 rfl ?_
        exact r_iret C hZ (u := P12) h rfl dX2_link_57
      · have h := h.2 c5
        refine r_iconst (v := (-1)) C dX2_link_21 (by decide) ?_
        exact r_iret C hZ (u := P) h rfl dX2_link_22
def rmX2_withUsers : Room := { frames := 0, cells := 0, slots := 0, locals := 0 }
theorem kwX2_withUsers_0 : Cond.fieldLink RX2 15 "WantsBench$Parts" "size" "I" ∈ wsX2_withUsers := by decide +kernel
theorem uwX2_withUsers_2 : ∀ w ∈ wsX20, w ∈ wsX2_withUsers := by decide +kernel
theorem kwX2_withUsers_2 : Cond.fieldLink RX2 11 "WantsBench$Parts" "uses" "[I" ∈ wsX2_withUsers := by decide +kernel
def fX2_withUsers_4b (N : Nat) (P : RS) (v2 : Int32) (v3 : Int32) (R : Int32 → Int32 → Prop) (K : Int32 → Prop) (Q : Int32 → Prop) : Prop :=
  (((P.1 1) ≤ v3 → K v2) ∧ (¬ (P.1 1) ≤ v3 → (vp_in v3 20 ∧ ((((P.2.1 0 v3.toNatClampNeg) &&& v2) = 0 → (∀ x4 : Int32, x4 = v3 + 1 → R v2 x4)) ∧ (¬ ((P.2.1 0 v3.toNatClampNeg) &&& v2) = 0 → (∀ x5 : Int32, x5 = v2 ||| ((1 : Int32) <<< (v3 &&& 31)) → (∀ x6 : Int32, x6 = v3 + 1 → R x5 x6)))))))
set_option maxRecDepth 100000 in
set_option maxHeartbeats 4000000 in
theorem wfX2_withUsers_4b {x : Nx} {g : Gx} {W0 : va_W} {a : Nat → Nat} {P : RS} {N : Nat} {v2 : Int32} {v3 : Int32} {R : Int32 → Int32 → Prop} {K : Int32 → Prop} {Q : Int32 → Prop} (C : Cx x g cX2_withUsers RX2 wsX2_withUsers rmX2_withUsers yX2_withUsers (some .int) 4) (hZ : Zq x g W0 (fun _ : Unit => pW g a P) (qI (fun (r : Int32) (_ : Unit) => Q r)) 0 0) (hR : ∀ (w2 : Int32) (w3 : Int32), R w2 w3 → St x 0 0 (pW g a P) [(0, .ref (a 50)), (2, .int w2), (3, .int w3)] [] 4) (hK : ∀ (w2 : Int32), K w2 → St x 0 0 (pW g a P) [(2, .int w2)] [] 35) (h : fX2_withUsers_4b N P v2 v3 R K Q) : St x 0 0 (pW g a P) [(0, .ref (a 50)), (2, .int v2), (3, .int v3)] [] 4 := by
  unfold fX2_withUsers_4b at h
  refine r_iload_n C dX2_withUsers_4 rfl ?_
  refine r_aload_n C dX2_withUsers_5 rfl ?_
  refine r_get (cn := RX2) (T := TX2) (N := 2) (ci := 2) C uwX2_withUsers_2 0 rfl rfl 1 (by decide) kwX2_withUsers_0 (v := .int (P.1 1)) rfl dX2_withUsers_6 ?_
  refine r_icmp_ge (tgt := 35) C dX2_withUsers_9 (by decide) (fun c1 => ?_) (fun c1 => ?_)
  · have h := h.1 c1
    refine r_sub [1] (lv' := [(2, .int v2)]) rfl ?_
    exact hK v2 h
  · have h := h.2 c1
    refine r_aload_n C dX2_withUsers_12 rfl ?_
    refine r_get (cn := RX2) (T := TX2) (N := 2) (ci := 2) C uwX2_withUsers_2 0 rfl rfl 0 (by decide) kwX2_withUsers_2 (v := .ref (a 0)) rfl dX2_withUsers_13 ?_
    refine r_iload_n C dX2_withUsers_16 rfl ?_
    obtain ⟨hi2, h⟩ := h
    refine r_iald C 1 rfl hi2 dX2_withUsers_17 ?_
    refine r_iload_n C dX2_withUsers_18 rfl ?_
    refine r_iand C dX2_withUsers_19 ?_
    refine r_if_eq (tgt := 29) C dX2_withUsers_20 (by decide) (fun c3 => ?_) (fun c3 => ?_)
    · have h := h.1 c3
      obtain ⟨x4, ex4⟩ : ∃ z : Int32, z = v3 + 1 := ⟨_, rfl⟩
      have h := h x4 ex4
      refine r_iinc (v := x4) (lv' := [(0, .ref (a 50)), (2, .int v2), (3, .int x4)]) C dX2_withUsers_29 rfl (by rw [ex4]; rfl) [some 0, some 1, none] (by decide) rfl rfl ?_
      refine r_goto (tgt := 4) C dX2_withUsers_32 (by decide) ?_
      exact hR v2 x4 h
    · have h := h.2 c3
      refine r_iload_n C dX2_withUsers_23 rfl ?_
      refine r_iconst (v := 1) C dX2_withUsers_24 (by decide) ?_
      refine r_iload_n C dX2_withUsers_25 rfl ?_
      refine r_ishl C dX2_withUsers_26 ?_
      refine r_ior C dX2_withUsers_27 ?_
      refine r_topi (fun x5 ex5 => ?_)
      have h := h x5 ex5
      refine r_istore_n (lv' := [(0, .ref (a 50)), (2, .int x5), (3, .int v3)]) C dX2_withUsers_28 [some 0, none, some 2] (by decide) rfl rfl ?_
      obtain ⟨x6, ex6⟩ : ∃ z : Int32, z = v3 + 1 := ⟨_, rfl⟩
      have h := h x6 ex6
      refine r_iinc (v := x6) (lv' := [(0, .ref (a 50)), (2, .int x5), (3, .int x6)]) C dX2_withUsers_29 rfl (by rw [ex6]; rfl) [some 0, some 1, none] (by decide) rfl rfl ?_
      refine r_goto (tgt := 4) C dX2_withUsers_32 (by decide) ?_
      exact hR x5 x6 h
def fX2_withUsers_4 (N : Nat) (P : RS) (K : Int32 → Prop) (Q : Int32 → Prop) : Nat → Int32 → Int32 → Prop
  | 0, _, _ => False
  | n + 1, v2, v3 => fX2_withUsers_4b N P v2 v3 (fun v2 v3 => fX2_withUsers_4 N P K Q n v2 v3) K Q
set_option maxRecDepth 100000 in
set_option maxHeartbeats 4000000 in
theorem wfX2_withUsers_4 {x : Nx} {g : Gx} {W0 : va_W} {a : Nat → Nat} {P : RS} {N : Nat} {K : Int32 → Prop} {Q : Int32 → Prop} (C : Cx x g cX2_withUsers RX2 wsX2_withUsers rmX2_withUsers yX2_withUsers (some .int) 4) (hZ : Zq x g W0 (fun _ : Unit => pW g a P) (qI (fun (r : Int32) (_ : Unit) => Q r)) 0 0) (hK : ∀ (w2 : Int32), K w2 → St x 0 0 (pW g a P) [(2, .int w2)] [] 35) : ∀ (n : Nat) (v2 : Int32) (v3 : Int32), fX2_withUsers_4 N P K Q n v2 v3 → St x 0 0 (pW g a P) [(0, .ref (a 50)), (2, .int v2), (3, .int v3)] [] 4 := by
  intro n
  induction n with
  | zero => intro v2 v3 h; exact False.elim h
  | succ n ih => intro v2 v3 h; exact wfX2_withUsers_4b C hZ ih hK h
def fX2_withUsers (N : Nat) (P : RS) (v1 : Int32) (Q : Int32 → Prop) : Prop :=
  (fX2_withUsers_4 N P (fun x7 => Q x7) Q N v1 0)
set_option maxRecDepth 100000 in
set_option maxHeartbeats 4000000 in
theorem tX2_withUsers (l : Launch) (g : Gx) (a : Nat → Nat) (P : RS) (N : Nat) (v1 : Int32) (Q : Int32 → Prop) (h : fX2_withUsers N P v1 Q) : MetG l g yX2_withUsers wsX2_withUsers rmX2_withUsers [.ref (a 50), .int v1] (pW g a P) (fun _ : Unit => pW g a P) (qI (fun (r : Int32) (_ : Unit) => Q r)) 0 0 := by
  refine met_of (cc := cX2_withUsers) (own := RX2) (nL := 4) (ret := (some .int)) (lv := [(0, .ref (a 50)), (1, .int v1)]) (by decide) rfl rfl (Nat.le_of_ble_eq_true rfl) rfl ?_
  intro x C hl hZ
  subst hl
  unfold fX2_withUsers at h
  refine r_iload_n C dX2_withUsers_0 rfl ?_
  refine r_istore_n (lv' := [(0, .ref (a 50)), (2, .int v1)]) C dX2_withUsers_1 [some 0, none] (by decide) rfl rfl ?_
  refine r_iconst (v := 0) C dX2_withUsers_2 (by decide) ?_
  refine r_istore_n (lv' := [(0, .ref (a 50)), (2, .int v1), (3, .int 0)]) C dX2_withUsers_3 [some 0, some 1, none] (by decide) rfl rfl ?_
  refine wfX2_withUsers_4 C hZ (fun x7 h => ?_) N _ _ h
  refine r_iload_n C dX2_withUsers_35 rfl ?_
  exact r_iret C hZ (u := ()) h rfl dX2_withUsers_36
