def adr2 (l : List (Nat → Nat)) (r : Nat) : Nat → Nat := match l, r with
  | [], _ => fun _ => 0
  | f :: _, 0 => f
  | _ :: l, r + 1 => adr2 l r
theorem initP {b l r : Nat × va_E} {T P D S Y : va_W} : (((((((([b] ++ T) ++ [l]) ++ [r]) ++ P) ++ D) ++ S) ++ Y) : va_W).Perm (([b, l, r] ++ (T ++ (P ++ (D ++ (S ++ Y))))) ++ []) := by
  rw [List.append_nil]
  simp only [List.append_assoc]
  refine List.Perm.append_left [b] ?_
  show (T ++ ([l] ++ ([r] ++ (P ++ (D ++ (S ++ Y)))))).Perm ([l] ++ ([r] ++ (T ++ (P ++ (D ++ (S ++ Y))))))
  exact pmA.trans (List.Perm.append_left [l] pmA)
theorem df_X0 : ∀ j, j < 10 → defaultValue (tyX0 j) = vp_V [.int 0, .null, .null, .null, .null, .null, .int 0, .null, .null, .null] j := by
  intro j hj
  rcases (show j = 0 ∨ j = 1 ∨ j = 2 ∨ j = 3 ∨ j = 4 ∨ j = 5 ∨ j = 6 ∨ j = 7 ∨ j = 8 ∨ j = 9 by omega) with rfl | rfl | rfl | rfl | rfl | rfl | rfl | rfl | rfl | rfl <;> rfl
theorem df_X2 : ∀ j, j < 2 → defaultValue (tyX2 j) = vp_V [.null, .int 0] j := by
  intro j hj
  rcases (show j = 0 ∨ j = 1 by omega) with rfl | rfl <;> rfl
theorem df_X3 : ∀ j, j < 8 → defaultValue (tyX3 j) = vp_V [.null, .int 0, .int 0, .int 0, .int 0, .int 0, .long 0, .long 0] j := by
  intro j hj
  rcases (show j = 0 ∨ j = 1 ∨ j = 2 ∨ j = 3 ∨ j = 4 ∨ j = 5 ∨ j = 6 ∨ j = 7 by omega) with rfl | rfl | rfl | rfl | rfl | rfl | rfl | rfl <;> rfl
theorem df_X4 : ∀ j, j < 5 → defaultValue (tyX4 j) = vp_V [.null, .null, .null, .int 0, .int 0] j := by
  intro j hj
  rcases (show j = 0 ∨ j = 1 ∨ j = 2 ∨ j = 3 ∨ j = 4 by omega) with rfl | rfl | rfl | rfl | rfl <;> rfl
theorem df_X5 : ∀ j, j < 13 → defaultValue (tyX5 j) = vp_V [.null, .null, .int 0, .int 0, .null, .int 0, .null, .null, .null, .int 0, .int 0, .null, .int 0] j := by
  intro j hj
  rcases (show j = 0 ∨ j = 1 ∨ j = 2 ∨ j = 3 ∨ j = 4 ∨ j = 5 ∨ j = 6 ∨ j = 7 ∨ j = 8 ∨ j = 9 ∨ j = 10 ∨ j = 11 ∨ j = 12 by omega) with rfl | rfl | rfl | rfl | rfl | rfl | rfl | rfl | rfl | rfl | rfl | rfl | rfl <;> rfl
theorem df_X6 : ∀ j, j < 43 → defaultValue (tyX6 j) = vp_V [.int 0, .null, .int 0, .null, .null, .null, .null, .null, .null, .null, .null, .null, .null, .int 0, .null, .null, .int 0, .int 0, .null, .null, .null, .int 0, .int 0, .int 0, .null, .null, .int 0, .int 0, .null, .int 0, .null, .int 0, .int 0, .null, .null, .int 0, .int 0, .int 0, .int 0, .null, .null, .null, .int 0] j := by
  intro j hj
  rcases (show j = 0 ∨ j = 1 ∨ j = 2 ∨ j = 3 ∨ j = 4 ∨ j = 5 ∨ j = 6 ∨ j = 7 ∨ j = 8 ∨ j = 9 ∨ j = 10 ∨ j = 11 ∨ j = 12 ∨ j = 13 ∨ j = 14 ∨ j = 15 ∨ j = 16 ∨ j = 17 ∨ j = 18 ∨ j = 19 ∨ j = 20 ∨ j = 21 ∨ j = 22 ∨ j = 23 ∨ j = 24 ∨ j = 25 ∨ j = 26 ∨ j = 27 ∨ j = 28 ∨ j = 29 ∨ j = 30 ∨ j = 31 ∨ j = 32 ∨ j = 33 ∨ j = 34 ∨ j = 35 ∨ j = 36 ∨ j = 37 ∨ j = 38 ∨ j = 39 ∨ j = 40 ∨ j = 41 ∨ j = 42 by omega) with rfl | rfl | rfl | rfl | rfl | rfl | rfl | rfl | rfl | rfl | rfl | rfl | rfl | rfl | rfl | rfl | rfl | rfl | rfl | rfl | rfl | rfl | rfl | rfl | rfl | rfl | rfl | rfl | rfl | rfl | rfl | rfl | rfl | rfl | rfl | rfl | rfl | rfl | rfl | rfl | rfl | rfl | rfl <;> rfl
def rmX3_init : Room := { frames := 1, cells := 1, slots := 80, locals := 30 }
theorem kwX3_init_0 : Cond.methodLink RX3 1 objectInit ∈ wsX3_init := by decide +kernel
theorem kwX3_init_1 : Cond.instanceMethod objectInit ∈ wsX3_init := by decide +kernel
theorem kwX3_init_2 : Cond.code objectInit ⟨#[0xb1]⟩ 1 none ∈ wsX3_init := by decide +kernel
theorem kwX3_init_3 : Cond.arrayClass .int ∈ wsX3_init := by decide +kernel
theorem kwX3_init_4 : Cond.fieldLink RX3 9 "WantsBench$Tape" "bytes" "[I" ∈ wsX3_init := by decide +kernel
theorem uwX3_init_3 : ∀ w ∈ wsX30, w ∈ wsX3_init := by decide +kernel
set_option maxRecDepth 100000 in
set_option maxHeartbeats 4000000 in
theorem tX3_init (l : Launch) (g : Gx) (h : Nat) : MetG l g yX3_init wsX3_init rmX3_init [.ref h] [(h, .inr (3, [.null, .int 0, .int 0, .int 0, .int 0, .int 0, .long 0, .long 0]))] (fun a : Nat → Nat => tW g a zRS) (qV (fun a : Nat → Nat => a 50 = h)) 1 80 := by
  refine met_of (cc := cX3_init) (own := RX3) (nL := 1) (ret := none) (lv := [(0, .ref h)]) (by decide) rfl rfl (Nat.le_of_ble_eq_true rfl) rfl ?_
  intro x C hl hZ
  subst hl
  refine r_aload_n C dX3_init_0 rfl ?_
  refine r_objinit C kwX3_init_0 kwX3_init_1 kwX3_init_2 (Nat.le_of_ble_eq_true rfl) (Nat.le_of_ble_eq_true rfl) dX3_init_1 ?_
  refine r_aload_n C dX3_init_4 rfl ?_
  refine r_bipush (v := 80) C dX3_init_5 (by decide) ?_
  refine r_newa C 0 (ty := .int) rfl (fun C h => by cases h) rfl kwX3_init_3 (N' := 80) (a0 := (80, .inl (fun _ => 0))) (fun _ => rfl) (by decide) (by decide) (by decide) (Nat.le_of_ble_eq_true rfl) (Nat.le_of_ble_eq_true rfl) dX3_init_7 (fun q1 => ?_)
  show St x 1 80 ([(h, .inr (3, [.null, .int 0, .int 0, .int 0, .int 0, .int 0, .long 0, .long 0])), (q1, .inl (g.2 0, 80, .inl (fun _ => 0)))]) _ _ 9
  refine r_putF (cn := RX3) (T := TX3) (N := 8) (ci := 3) (ws' := [(h, .inr (3, [.ref q1, .int 0, .int 0, .int 0, .int 0, .int 0, .long 0, .long 0])), (q1, .inl (g.2 0, 80, .inl (fun _ => 0)))]) C uwX3_init_3 tyX3 tyX3_ok nmX3 0 rfl rfl 0 (by decide) kwX3_init_4 rfl rfl rfl rfl rfl (Nat.le_of_ble_eq_true rfl) dX3_init_9 rfl ?_
  exact r_vret C hZ (u := adr [(50, h), (0, q1)]) rfl rfl dX3_init_12
def rmX2_init : Room := { frames := 1, cells := 1, slots := 20, locals := 30 }
theorem kwX2_init_0 : Cond.methodLink RX2 3 objectInit ∈ wsX2_init := by decide +kernel
theorem kwX2_init_1 : Cond.instanceMethod objectInit ∈ wsX2_init := by decide +kernel
theorem kwX2_init_2 : Cond.code objectInit ⟨#[0xb1]⟩ 1 none ∈ wsX2_init := by decide +kernel
theorem kwX2_init_3 : Cond.arrayClass .int ∈ wsX2_init := by decide +kernel
theorem kwX2_init_4 : Cond.fieldLink RX2 11 "WantsBench$Parts" "uses" "[I" ∈ wsX2_init := by decide +kernel
theorem uwX2_init_2 : ∀ w ∈ wsX20, w ∈ wsX2_init := by decide +kernel
set_option maxRecDepth 100000 in
set_option maxHeartbeats 4000000 in
theorem tX2_init (l : Launch) (g : Gx) (h : Nat) : MetG l g yX2_init wsX2_init rmX2_init [.ref h] [(h, .inr (2, [.null, .int 0]))] (fun a : Nat → Nat => pW g a zRS) (qV (fun a : Nat → Nat => a 50 = h)) 1 20 := by
  refine met_of (cc := cX2_init) (own := RX2) (nL := 1) (ret := none) (lv := [(0, .ref h)]) (by decide) rfl rfl (Nat.le_of_ble_eq_true rfl) rfl ?_
  intro x C hl hZ
  subst hl
  refine r_aload_n C dX2_init_0 rfl ?_
  refine r_objinit C kwX2_init_0 kwX2_init_1 kwX2_init_2 (Nat.le_of_ble_eq_true rfl) (Nat.le_of_ble_eq_true rfl) dX2_init_1 ?_
  refine r_aload_n C dX2_init_4 rfl ?_
  refine r_bipush (v := 20) C dX2_init_5 (by decide) ?_
  refine r_newa C 0 (ty := .int) rfl (fun C h => by cases h) rfl kwX2_init_3 (N' := 20) (a0 := (20, .inl (fun _ => 0))) (fun _ => rfl) (by decide) (by decide) (by decide) (Nat.le_of_ble_eq_true rfl) (Nat.le_of_ble_eq_true rfl) dX2_init_7 (fun q1 => ?_)
  show St x 1 20 ([(h, .inr (2, [.null, .int 0])), (q1, .inl (g.2 0, 20, .inl (fun _ => 0)))]) _ _ 9
  refine r_putF (cn := RX2) (T := TX2) (N := 2) (ci := 2) (ws' := [(h, .inr (2, [.ref q1, .int 0])), (q1, .inl (g.2 0, 20, .inl (fun _ => 0)))]) C uwX2_init_2 tyX2 tyX2_ok nmX2 0 rfl rfl 0 (by decide) kwX2_init_4 rfl rfl rfl rfl rfl (Nat.le_of_ble_eq_true rfl) dX2_init_9 rfl ?_
  exact r_vret C hZ (u := adr [(50, h), (0, q1)]) rfl rfl dX2_init_12
def rmX0_init : Room := { frames := 1, cells := 8, slots := 2192, locals := 30 }
theorem kwX0_init_0 : Cond.methodLink RX0 3 objectInit ∈ wsX0_init := by decide +kernel
theorem kwX0_init_1 : Cond.instanceMethod objectInit ∈ wsX0_init := by decide +kernel
theorem kwX0_init_2 : Cond.code objectInit ⟨#[0xb1]⟩ 1 none ∈ wsX0_init := by decide +kernel
theorem kwX0_init_3 : Cond.arrayClass .long ∈ wsX0_init := by decide +kernel
theorem kwX0_init_4 : Cond.fieldLink RX0 9 "WantsBench$Game" "breaking" "[J" ∈ wsX0_init := by decide +kernel
theorem uwX0_init_0 : ∀ w ∈ wsX00, w ∈ wsX0_init := by decide +kernel
theorem kwX0_init_6 : Cond.fieldLink RX0 13 "WantsBench$Game" "turning" "[J" ∈ wsX0_init := by decide +kernel
theorem kwX0_init_7 : Cond.arrayClass .int ∈ wsX0_init := by decide +kernel
theorem kwX0_init_8 : Cond.fieldLink RX0 16 "WantsBench$Game" "turned" "[I" ∈ wsX0_init := by decide +kernel
theorem kwX0_init_9 : Cond.fieldLink RX0 20 "WantsBench$Game" "runOn" "[I" ∈ wsX0_init := by decide +kernel
theorem kwX0_init_10 : Cond.fieldLink RX0 23 "WantsBench$Game" "row" "[I" ∈ wsX0_init := by decide +kernel
theorem kwX0_init_11 : Cond.fieldLink RX0 26 "WantsBench$Game" "lost" "[I" ∈ wsX0_init := by decide +kernel
theorem kwX0_init_12 : Cond.fieldLink RX0 29 "WantsBench$Game" "wayTolds" "[J" ∈ wsX0_init := by decide +kernel
theorem kwX0_init_13 : Cond.fieldLink RX0 32 "WantsBench$Game" "wayEnds" "[I" ∈ wsX0_init := by decide +kernel
set_option maxRecDepth 100000 in
set_option maxHeartbeats 4000000 in
theorem tX0_init (l : Launch) (g : Gx) (h : Nat) : MetG l g yX0_init wsX0_init rmX0_init [.ref h] [(h, .inr (0, [.int 0, .null, .null, .null, .null, .null, .int 0, .null, .null, .null]))] (fun a : Nat → Nat => gW g a zRS) (qV (fun a : Nat → Nat => a 50 = h)) 8 2192 := by
  refine met_of (cc := cX0_init) (own := RX0) (nL := 1) (ret := none) (lv := [(0, .ref h)]) (by decide) rfl rfl (Nat.le_of_ble_eq_true rfl) rfl ?_
  intro x C hl hZ
  subst hl
  refine r_aload_n C dX0_init_0 rfl ?_
  refine r_objinit C kwX0_init_0 kwX0_init_1 kwX0_init_2 (Nat.le_of_ble_eq_true rfl) (Nat.le_of_ble_eq_true rfl) dX0_init_1 ?_
  refine r_aload_n C dX0_init_4 rfl ?_
  refine r_bipush (v := 20) C dX0_init_5 (by decide) ?_
  refine r_newa C 1 (ty := .long) rfl (fun C h => by cases h) rfl kwX0_init_3 (N' := 20) (a0 := (20, .inr (.inl (fun _ => 0)))) (fun _ => rfl) (by decide) (by decide) (by decide) (Nat.le_of_ble_eq_true rfl) (Nat.le_of_ble_eq_true rfl) dX0_init_7 (fun q1 => ?_)
  show St x 1 20 ([(h, .inr (0, [.int 0, .null, .null, .null, .null, .null, .int 0, .null, .null, .null])), (q1, .inl (g.2 1, 20, .inr (.inl (fun _ => 0))))]) _ _ 9
  refine r_putF (cn := RX0) (T := TX0) (N := 10) (ci := 0) (ws' := [(h, .inr (0, [.int 0, .ref q1, .null, .null, .null, .null, .int 0, .null, .null, .null])), (q1, .inl (g.2 1, 20, .inr (.inl (fun _ => 0))))]) C uwX0_init_0 tyX0 tyX0_ok nmX0 0 rfl rfl 1 (by decide) kwX0_init_4 rfl rfl rfl rfl rfl (Nat.le_of_ble_eq_true rfl) dX0_init_9 rfl ?_
  refine r_aload_n C dX0_init_12 rfl ?_
  refine r_bipush (v := 20) C dX0_init_13 (by decide) ?_
  refine r_newa C 1 (ty := .long) rfl (fun C h => by cases h) rfl kwX0_init_3 (N' := 20) (a0 := (20, .inr (.inl (fun _ => 0)))) (fun _ => rfl) (by decide) (by decide) (by decide) (Nat.le_of_ble_eq_true rfl) (Nat.le_of_ble_eq_true rfl) dX0_init_15 (fun q2 => ?_)
  show St x 2 40 ([(h, .inr (0, [.int 0, .ref q1, .null, .null, .null, .null, .int 0, .null, .null, .null])), (q1, .inl (g.2 1, 20, .inr (.inl (fun _ => 0)))), (q2, .inl (g.2 1, 20, .inr (.inl (fun _ => 0))))]) _ _ 17
  refine r_putF (cn := RX0) (T := TX0) (N := 10) (ci := 0) (ws' := [(h, .inr (0, [.int 0, .ref q1, .ref q2, .null, .null, .null, .int 0, .null, .null, .null])), (q1, .inl (g.2 1, 20, .inr (.inl (fun _ => 0)))), (q2, .inl (g.2 1, 20, .inr (.inl (fun _ => 0))))]) C uwX0_init_0 tyX0 tyX0_ok nmX0 0 rfl rfl 2 (by decide) kwX0_init_6 rfl rfl rfl rfl rfl (Nat.le_of_ble_eq_true rfl) dX0_init_17 rfl ?_
  refine r_aload_n C dX0_init_20 rfl ?_
  refine r_bipush (v := 20) C dX0_init_21 (by decide) ?_
  refine r_newa C 0 (ty := .int) rfl (fun C h => by cases h) rfl kwX0_init_7 (N' := 20) (a0 := (20, .inl (fun _ => 0))) (fun _ => rfl) (by decide) (by decide) (by decide) (Nat.le_of_ble_eq_true rfl) (Nat.le_of_ble_eq_true rfl) dX0_init_23 (fun q3 => ?_)
  show St x 3 60 ([(h, .inr (0, [.int 0, .ref q1, .ref q2, .null, .null, .null, .int 0, .null, .null, .null])), (q1, .inl (g.2 1, 20, .inr (.inl (fun _ => 0)))), (q2, .inl (g.2 1, 20, .inr (.inl (fun _ => 0)))), (q3, .inl (g.2 0, 20, .inl (fun _ => 0)))]) _ _ 25
  refine r_putF (cn := RX0) (T := TX0) (N := 10) (ci := 0) (ws' := [(h, .inr (0, [.int 0, .ref q1, .ref q2, .ref q3, .null, .null, .int 0, .null, .null, .null])), (q1, .inl (g.2 1, 20, .inr (.inl (fun _ => 0)))), (q2, .inl (g.2 1, 20, .inr (.inl (fun _ => 0)))), (q3, .inl (g.2 0, 20, .inl (fun _ => 0)))]) C uwX0_init_0 tyX0 tyX0_ok nmX0 0 rfl rfl 3 (by decide) kwX0_init_8 rfl rfl rfl rfl rfl (Nat.le_of_ble_eq_true rfl) dX0_init_25 rfl ?_
  refine r_aload_n C dX0_init_28 rfl ?_
  refine r_bipush (v := 20) C dX0_init_29 (by decide) ?_
  refine r_newa C 0 (ty := .int) rfl (fun C h => by cases h) rfl kwX0_init_7 (N' := 20) (a0 := (20, .inl (fun _ => 0))) (fun _ => rfl) (by decide) (by decide) (by decide) (Nat.le_of_ble_eq_true rfl) (Nat.le_of_ble_eq_true rfl) dX0_init_31 (fun q4 => ?_)
  show St x 4 80 ([(h, .inr (0, [.int 0, .ref q1, .ref q2, .ref q3, .null, .null, .int 0, .null, .null, .null])), (q1, .inl (g.2 1, 20, .inr (.inl (fun _ => 0)))), (q2, .inl (g.2 1, 20, .inr (.inl (fun _ => 0)))), (q3, .inl (g.2 0, 20, .inl (fun _ => 0))), (q4, .inl (g.2 0, 20, .inl (fun _ => 0)))]) _ _ 33
  refine r_putF (cn := RX0) (T := TX0) (N := 10) (ci := 0) (ws' := [(h, .inr (0, [.int 0, .ref q1, .ref q2, .ref q3, .ref q4, .null, .int 0, .null, .null, .null])), (q1, .inl (g.2 1, 20, .inr (.inl (fun _ => 0)))), (q2, .inl (g.2 1, 20, .inr (.inl (fun _ => 0)))), (q3, .inl (g.2 0, 20, .inl (fun _ => 0))), (q4, .inl (g.2 0, 20, .inl (fun _ => 0)))]) C uwX0_init_0 tyX0 tyX0_ok nmX0 0 rfl rfl 4 (by decide) kwX0_init_9 rfl rfl rfl rfl rfl (Nat.le_of_ble_eq_true rfl) dX0_init_33 rfl ?_
  refine r_aload_n C dX0_init_36 rfl ?_
  refine r_sipush (v := 1024) C dX0_init_37 (by decide) ?_
  refine r_newa C 0 (ty := .int) rfl (fun C h => by cases h) rfl kwX0_init_7 (N' := 1024) (a0 := (1024, .inl (fun _ => 0))) (fun _ => rfl) (by decide) (by decide) (by decide) (Nat.le_of_ble_eq_true rfl) (Nat.le_of_ble_eq_true rfl) dX0_init_40 (fun q5 => ?_)
  show St x 5 1104 ([(h, .inr (0, [.int 0, .ref q1, .ref q2, .ref q3, .ref q4, .null, .int 0, .null, .null, .null])), (q1, .inl (g.2 1, 20, .inr (.inl (fun _ => 0)))), (q2, .inl (g.2 1, 20, .inr (.inl (fun _ => 0)))), (q3, .inl (g.2 0, 20, .inl (fun _ => 0))), (q4, .inl (g.2 0, 20, .inl (fun _ => 0))), (q5, .inl (g.2 0, 1024, .inl (fun _ => 0)))]) _ _ 42
  refine r_putF (cn := RX0) (T := TX0) (N := 10) (ci := 0) (ws' := [(h, .inr (0, [.int 0, .ref q1, .ref q2, .ref q3, .ref q4, .ref q5, .int 0, .null, .null, .null])), (q1, .inl (g.2 1, 20, .inr (.inl (fun _ => 0)))), (q2, .inl (g.2 1, 20, .inr (.inl (fun _ => 0)))), (q3, .inl (g.2 0, 20, .inl (fun _ => 0))), (q4, .inl (g.2 0, 20, .inl (fun _ => 0))), (q5, .inl (g.2 0, 1024, .inl (fun _ => 0)))]) C uwX0_init_0 tyX0 tyX0_ok nmX0 0 rfl rfl 5 (by decide) kwX0_init_10 rfl rfl rfl rfl rfl (Nat.le_of_ble_eq_true rfl) dX0_init_42 rfl ?_
  refine r_aload_n C dX0_init_45 rfl ?_
  refine r_sipush (v := 1024) C dX0_init_46 (by decide) ?_
  refine r_newa C 0 (ty := .int) rfl (fun C h => by cases h) rfl kwX0_init_7 (N' := 1024) (a0 := (1024, .inl (fun _ => 0))) (fun _ => rfl) (by decide) (by decide) (by decide) (Nat.le_of_ble_eq_true rfl) (Nat.le_of_ble_eq_true rfl) dX0_init_49 (fun q6 => ?_)
  show St x 6 2128 ([(h, .inr (0, [.int 0, .ref q1, .ref q2, .ref q3, .ref q4, .ref q5, .int 0, .null, .null, .null])), (q1, .inl (g.2 1, 20, .inr (.inl (fun _ => 0)))), (q2, .inl (g.2 1, 20, .inr (.inl (fun _ => 0)))), (q3, .inl (g.2 0, 20, .inl (fun _ => 0))), (q4, .inl (g.2 0, 20, .inl (fun _ => 0))), (q5, .inl (g.2 0, 1024, .inl (fun _ => 0))), (q6, .inl (g.2 0, 1024, .inl (fun _ => 0)))]) _ _ 51
  refine r_putF (cn := RX0) (T := TX0) (N := 10) (ci := 0) (ws' := [(h, .inr (0, [.int 0, .ref q1, .ref q2, .ref q3, .ref q4, .ref q5, .int 0, .ref q6, .null, .null])), (q1, .inl (g.2 1, 20, .inr (.inl (fun _ => 0)))), (q2, .inl (g.2 1, 20, .inr (.inl (fun _ => 0)))), (q3, .inl (g.2 0, 20, .inl (fun _ => 0))), (q4, .inl (g.2 0, 20, .inl (fun _ => 0))), (q5, .inl (g.2 0, 1024, .inl (fun _ => 0))), (q6, .inl (g.2 0, 1024, .inl (fun _ => 0)))]) C uwX0_init_0 tyX0 tyX0_ok nmX0 0 rfl rfl 7 (by decide) kwX0_init_11 rfl rfl rfl rfl rfl (Nat.le_of_ble_eq_true rfl) dX0_init_51 rfl ?_
  refine r_aload_n C dX0_init_54 rfl ?_
  refine r_bipush (v := 32) C dX0_init_55 (by decide) ?_
  refine r_newa C 1 (ty := .long) rfl (fun C h => by cases h) rfl kwX0_init_3 (N' := 32) (a0 := (32, .inr (.inl (fun _ => 0)))) (fun _ => rfl) (by decide) (by decide) (by decide) (Nat.le_of_ble_eq_true rfl) (Nat.le_of_ble_eq_true rfl) dX0_init_57 (fun q7 => ?_)
  show St x 7 2160 ([(h, .inr (0, [.int 0, .ref q1, .ref q2, .ref q3, .ref q4, .ref q5, .int 0, .ref q6, .null, .null])), (q1, .inl (g.2 1, 20, .inr (.inl (fun _ => 0)))), (q2, .inl (g.2 1, 20, .inr (.inl (fun _ => 0)))), (q3, .inl (g.2 0, 20, .inl (fun _ => 0))), (q4, .inl (g.2 0, 20, .inl (fun _ => 0))), (q5, .inl (g.2 0, 1024, .inl (fun _ => 0))), (q6, .inl (g.2 0, 1024, .inl (fun _ => 0))), (q7, .inl (g.2 1, 32, .inr (.inl (fun _ => 0))))]) _ _ 59
  refine r_putF (cn := RX0) (T := TX0) (N := 10) (ci := 0) (ws' := [(h, .inr (0, [.int 0, .ref q1, .ref q2, .ref q3, .ref q4, .ref q5, .int 0, .ref q6, .ref q7, .null])), (q1, .inl (g.2 1, 20, .inr (.inl (fun _ => 0)))), (q2, .inl (g.2 1, 20, .inr (.inl (fun _ => 0)))), (q3, .inl (g.2 0, 20, .inl (fun _ => 0))), (q4, .inl (g.2 0, 20, .inl (fun _ => 0))), (q5, .inl (g.2 0, 1024, .inl (fun _ => 0))), (q6, .inl (g.2 0, 1024, .inl (fun _ => 0))), (q7, .inl (g.2 1, 32, .inr (.inl (fun _ => 0))))]) C uwX0_init_0 tyX0 tyX0_ok nmX0 0 rfl rfl 8 (by decide) kwX0_init_12 rfl rfl rfl rfl rfl (Nat.le_of_ble_eq_true rfl) dX0_init_59 rfl ?_
  refine r_aload_n C dX0_init_62 rfl ?_
  refine r_bipush (v := 32) C dX0_init_63 (by decide) ?_
  refine r_newa C 0 (ty := .int) rfl (fun C h => by cases h) rfl kwX0_init_7 (N' := 32) (a0 := (32, .inl (fun _ => 0))) (fun _ => rfl) (by decide) (by decide) (by decide) (Nat.le_of_ble_eq_true rfl) (Nat.le_of_ble_eq_true rfl) dX0_init_65 (fun q8 => ?_)
  show St x 8 2192 ([(h, .inr (0, [.int 0, .ref q1, .ref q2, .ref q3, .ref q4, .ref q5, .int 0, .ref q6, .ref q7, .null])), (q1, .inl (g.2 1, 20, .inr (.inl (fun _ => 0)))), (q2, .inl (g.2 1, 20, .inr (.inl (fun _ => 0)))), (q3, .inl (g.2 0, 20, .inl (fun _ => 0))), (q4, .inl (g.2 0, 20, .inl (fun _ => 0))), (q5, .inl (g.2 0, 1024, .inl (fun _ => 0))), (q6, .inl (g.2 0, 1024, .inl (fun _ => 0))), (q7, .inl (g.2 1, 32, .inr (.inl (fun _ => 0)))), (q8, .inl (g.2 0, 32, .inl (fun _ => 0)))]) _ _ 67
  refine r_putF (cn := RX0) (T := TX0) (N := 10) (ci := 0) (ws' := [(h, .inr (0, [.int 0, .ref q1, .ref q2, .ref q3, .ref q4, .ref q5, .int 0, .ref q6, .ref q7, .ref q8])), (q1, .inl (g.2 1, 20, .inr (.inl (fun _ => 0)))), (q2, .inl (g.2 1, 20, .inr (.inl (fun _ => 0)))), (q3, .inl (g.2 0, 20, .inl (fun _ => 0))), (q4, .inl (g.2 0, 20, .inl (fun _ => 0))), (q5, .inl (g.2 0, 1024, .inl (fun _ => 0))), (q6, .inl (g.2 0, 1024, .inl (fun _ => 0))), (q7, .inl (g.2 1, 32, .inr (.inl (fun _ => 0)))), (q8, .inl (g.2 0, 32, .inl (fun _ => 0)))]) C uwX0_init_0 tyX0 tyX0_ok nmX0 0 rfl rfl 9 (by decide) kwX0_init_13 rfl rfl rfl rfl rfl (Nat.le_of_ble_eq_true rfl) dX0_init_67 rfl ?_
  exact r_vret C hZ (u := adr [(50, h), (1, q1), (2, q2), (3, q3), (4, q4), (5, q5), (7, q6), (8, q7), (9, q8)]) rfl rfl dX0_init_70
def rmX4_init : Room := { frames := 1, cells := 3, slots := 12, locals := 30 }
theorem kwX4_init_0 : Cond.methodLink RX4 3 objectInit ∈ wsX4_init := by decide +kernel
theorem kwX4_init_1 : Cond.instanceMethod objectInit ∈ wsX4_init := by decide +kernel
theorem kwX4_init_2 : Cond.code objectInit ⟨#[0xb1]⟩ 1 none ∈ wsX4_init := by decide +kernel
theorem kwX4_init_3 : Cond.classLink RX4 11 RX1 ∈ wsX4_init := by decide +kernel
theorem kwX4_init_4 : Cond.fieldLink RX4 13 "WantsBench$Treaty" "sides" "[LWantsBench$Law;" ∈ wsX4_init := by decide +kernel
theorem uwX4_init_4 : ∀ w ∈ wsX40, w ∈ wsX4_init := by decide +kernel
theorem kwX4_init_6 : Cond.arrayClass .int ∈ wsX4_init := by decide +kernel
theorem kwX4_init_7 : Cond.fieldLink RX4 17 "WantsBench$Treaty" "terms" "[I" ∈ wsX4_init := by decide +kernel
theorem kwX4_init_8 : Cond.fieldLink RX4 21 "WantsBench$Treaty" "best" "[I" ∈ wsX4_init := by decide +kernel
set_option maxRecDepth 100000 in
set_option maxHeartbeats 4000000 in
theorem tX4_init (l : Launch) (g : Gx) (h : Nat) : MetG l g yX4_init wsX4_init rmX4_init [.ref h] [(h, .inr (4, [.null, .null, .null, .int 0, .int 0]))] (fun a : Nat → Nat => yW g a zRS (fun _ => none)) (qV (fun a : Nat → Nat => a 50 = h)) 3 12 := by
  refine met_of (cc := cX4_init) (own := RX4) (nL := 1) (ret := none) (lv := [(0, .ref h)]) (by decide) rfl rfl (Nat.le_of_ble_eq_true rfl) rfl ?_
  intro x C hl hZ
  subst hl
  refine r_aload_n C dX4_init_0 rfl ?_
  refine r_objinit C kwX4_init_0 kwX4_init_1 kwX4_init_2 (Nat.le_of_ble_eq_true rfl) (Nat.le_of_ble_eq_true rfl) dX4_init_1 ?_
  refine r_aload_n C dX4_init_4 rfl ?_
  refine r_iconst (v := 4) C dX4_init_5 (by decide) ?_
  refine r_newq C hZ.2.2 kwX4_init_3 (N' := 4) (by decide) (by decide) (by decide) (Nat.le_of_ble_eq_true rfl) (Nat.le_of_ble_eq_true rfl) dX4_init_6 (fun q1 => ?_)
  show St x 1 4 ([(h, .inr (4, [.null, .null, .null, .int 0, .int 0])), (q1, .inl (g.2 4, 4, .inr (.inr (.inr (.inr (fun _ => none))))))]) _ _ 9
  refine r_putF (cn := RX4) (T := TX4) (N := 5) (ci := 4) (ws' := [(h, .inr (4, [.ref q1, .null, .null, .int 0, .int 0])), (q1, .inl (g.2 4, 4, .inr (.inr (.inr (.inr (fun _ => none))))))]) C uwX4_init_4 tyX4 tyX4_ok nmX4 0 rfl rfl 0 (by decide) kwX4_init_4 rfl rfl rfl rfl rfl (Nat.le_of_ble_eq_true rfl) dX4_init_9 rfl ?_
  refine r_aload_n C dX4_init_12 rfl ?_
  refine r_iconst (v := 4) C dX4_init_13 (by decide) ?_
  refine r_newa C 0 (ty := .int) rfl (fun C h => by cases h) rfl kwX4_init_6 (N' := 4) (a0 := (4, .inl (fun _ => 0))) (fun _ => rfl) (by decide) (by decide) (by decide) (Nat.le_of_ble_eq_true rfl) (Nat.le_of_ble_eq_true rfl) dX4_init_14 (fun q2 => ?_)
  show St x 2 8 ([(h, .inr (4, [.ref q1, .null, .null, .int 0, .int 0])), (q1, .inl (g.2 4, 4, .inr (.inr (.inr (.inr (fun _ => none)))))), (q2, .inl (g.2 0, 4, .inl (fun _ => 0)))]) _ _ 16
  refine r_putF (cn := RX4) (T := TX4) (N := 5) (ci := 4) (ws' := [(h, .inr (4, [.ref q1, .ref q2, .null, .int 0, .int 0])), (q1, .inl (g.2 4, 4, .inr (.inr (.inr (.inr (fun _ => none)))))), (q2, .inl (g.2 0, 4, .inl (fun _ => 0)))]) C uwX4_init_4 tyX4 tyX4_ok nmX4 0 rfl rfl 1 (by decide) kwX4_init_7 rfl rfl rfl rfl rfl (Nat.le_of_ble_eq_true rfl) dX4_init_16 rfl ?_
  refine r_aload_n C dX4_init_19 rfl ?_
  refine r_iconst (v := 4) C dX4_init_20 (by decide) ?_
  refine r_newa C 0 (ty := .int) rfl (fun C h => by cases h) rfl kwX4_init_6 (N' := 4) (a0 := (4, .inl (fun _ => 0))) (fun _ => rfl) (by decide) (by decide) (by decide) (Nat.le_of_ble_eq_true rfl) (Nat.le_of_ble_eq_true rfl) dX4_init_21 (fun q3 => ?_)
  show St x 3 12 ([(h, .inr (4, [.ref q1, .ref q2, .null, .int 0, .int 0])), (q1, .inl (g.2 4, 4, .inr (.inr (.inr (.inr (fun _ => none)))))), (q2, .inl (g.2 0, 4, .inl (fun _ => 0))), (q3, .inl (g.2 0, 4, .inl (fun _ => 0)))]) _ _ 23
  refine r_putF (cn := RX4) (T := TX4) (N := 5) (ci := 4) (ws' := [(h, .inr (4, [.ref q1, .ref q2, .ref q3, .int 0, .int 0])), (q1, .inl (g.2 4, 4, .inr (.inr (.inr (.inr (fun _ => none)))))), (q2, .inl (g.2 0, 4, .inl (fun _ => 0))), (q3, .inl (g.2 0, 4, .inl (fun _ => 0)))]) C uwX4_init_4 tyX4 tyX4_ok nmX4 0 rfl rfl 2 (by decide) kwX4_init_8 rfl rfl rfl rfl rfl (Nat.le_of_ble_eq_true rfl) dX4_init_23 rfl ?_
  exact r_vret C hZ (u := adr [(50, h), (0, q1), (1, q2), (2, q3)]) rfl rfl dX4_init_26
def rmX5_init : Room := { frames := 2, cells := 28, slots := 4751, locals := 50 }
theorem kwX5_init_0 : Cond.methodLink RX5 1 objectInit ∈ wsX5_init := by decide +kernel
theorem kwX5_init_1 : Cond.instanceMethod objectInit ∈ wsX5_init := by decide +kernel
theorem kwX5_init_2 : Cond.code objectInit ⟨#[0xb1]⟩ 1 none ∈ wsX5_init := by decide +kernel
theorem uwX5_init_3 : ∀ w ∈ wsX30, w ∈ wsX5_init := by decide +kernel
theorem kwX5_init_4 : Cond.classLink RX5 7 RX3 ∈ wsX5_init := by decide +kernel
theorem kwX5_init_5 : Cond.instantiable RX3 8 ∈ wsX5_init := by decide +kernel
theorem kwX5_init_6 : Cond.initialized RX3 ∈ wsX5_init := by decide +kernel
theorem kwX5_init_7 : Cond.instanceMethod yX3_init ∈ wsX5_init := by decide +kernel
theorem kwX5_init_8 : Cond.fieldLink RX5 10 "WantsBench" "tape" "LWantsBench$Tape;" ∈ wsX5_init := by decide +kernel
theorem uwX5_init_5 : ∀ w ∈ wsX50, w ∈ wsX5_init := by decide +kernel
theorem kwX5_init_10 : Cond.classLink RX5 16 RX1 ∈ wsX5_init := by decide +kernel
theorem kwX5_init_11 : Cond.fieldLink RX5 18 "WantsBench" "laws" "[LWantsBench$Law;" ∈ wsX5_init := by decide +kernel
theorem kwX5_init_12 : Cond.arrayClass .byte ∈ wsX5_init := by decide +kernel
theorem kwX5_init_13 : Cond.fieldLink RX5 22 "WantsBench" "run" "[B" ∈ wsX5_init := by decide +kernel
theorem uwX5_init_2 : ∀ w ∈ wsX20, w ∈ wsX5_init := by decide +kernel
theorem kwX5_init_15 : Cond.classLink RX5 26 RX2 ∈ wsX5_init := by decide +kernel
theorem kwX5_init_16 : Cond.instantiable RX2 2 ∈ wsX5_init := by decide +kernel
theorem kwX5_init_17 : Cond.initialized RX2 ∈ wsX5_init := by decide +kernel
theorem kwX5_init_18 : Cond.instanceMethod yX2_init ∈ wsX5_init := by decide +kernel
theorem kwX5_init_19 : Cond.fieldLink RX5 29 "WantsBench" "parts" "LWantsBench$Parts;" ∈ wsX5_init := by decide +kernel
theorem uwX5_init_0 : ∀ w ∈ wsX00, w ∈ wsX5_init := by decide +kernel
theorem kwX5_init_21 : Cond.classLink RX5 33 RX0 ∈ wsX5_init := by decide +kernel
theorem kwX5_init_22 : Cond.instantiable RX0 10 ∈ wsX5_init := by decide +kernel
theorem kwX5_init_23 : Cond.initialized RX0 ∈ wsX5_init := by decide +kernel
theorem kwX5_init_24 : Cond.instanceMethod yX0_init ∈ wsX5_init := by decide +kernel
theorem kwX5_init_25 : Cond.fieldLink RX5 36 "WantsBench" "desk" "LWantsBench$Game;" ∈ wsX5_init := by decide +kernel
theorem kwX5_init_26 : Cond.fieldLink RX5 40 "WantsBench" "stage" "LWantsBench$Game;" ∈ wsX5_init := by decide +kernel
theorem uwX5_init_4 : ∀ w ∈ wsX40, w ∈ wsX5_init := by decide +kernel
theorem kwX5_init_28 : Cond.classLink RX5 43 RX4 ∈ wsX5_init := by decide +kernel
theorem kwX5_init_29 : Cond.instantiable RX4 5 ∈ wsX5_init := by decide +kernel
theorem kwX5_init_30 : Cond.initialized RX4 ∈ wsX5_init := by decide +kernel
theorem kwX5_init_31 : Cond.instanceMethod yX4_init ∈ wsX5_init := by decide +kernel
theorem kwX5_init_32 : Cond.fieldLink RX5 46 "WantsBench" "treaty" "LWantsBench$Treaty;" ∈ wsX5_init := by decide +kernel
set_option maxRecDepth 100000 in
set_option maxHeartbeats 4000000 in
theorem tX5_init (l : Launch) (g : Gx) (h : Nat) : MetG l g yX5_init wsX5_init rmX5_init [.ref h] [(h, .inr (5, [.null, .null, .int 0, .int 0, .null, .int 0, .null, .null, .null, .int 0, .int 0, .null, .int 0]))] (fun a : Nat → Nat → Nat => sysW g a zRS (fun _ => none) zRS zRS zRS zRS zRS (fun _ => none) [] (fun _ => zRS)) (qV (fun a : Nat → Nat → Nat => a 0 50 = h)) 28 4751 := by
  refine met_of (cc := cX5_init) (own := RX5) (nL := 1) (ret := none) (lv := [(0, .ref h)]) (by decide) rfl rfl (Nat.le_of_ble_eq_true rfl) rfl ?_
  intro x C hl hZ
  subst hl
  refine r_aload_n C dX5_init_0 rfl ?_
  refine r_objinit C kwX5_init_0 kwX5_init_1 kwX5_init_2 (Nat.le_of_ble_eq_true rfl) (Nat.le_of_ble_eq_true rfl) dX5_init_1 ?_
  refine r_aload_n C dX5_init_4 rfl ?_
  refine r_newobj C uwX5_init_3 tyX3 tyX3_ok kwX5_init_4 kwX5_init_5 kwX5_init_6 (ci := 3) rfl (fs := [.null, .int 0, .int 0, .int 0, .int 0, .int 0, .long 0, .long 0]) df_X3 (Nat.le_of_ble_eq_true rfl) (Nat.le_of_ble_eq_true rfl) dX5_init_5 (fun q1 => ?_)
  show St x 1 8 (([(h, .inr (5, [.null, .null, .int 0, .int 0, .null, .int 0, .null, .null, .null, .int 0, .int 0, .null, .int 0]))] ++ [(q1, .inr (3, [.null, .int 0, .int 0, .int 0, .int 0, .int 0, .long 0, .long 0]))])) _ _ 8
  refine r_dup C dX5_init_8 rfl ?_
  refine callP_V (ws' := fun z => ([(h, .inr (5, [.null, .null, .int 0, .int 0, .null, .int 0, .null, .null, .null, .int 0, .int 0, .null, .int 0]))] ++ tW g z zRS)) C (run_IN (As := []) (rest := [.ref q1, .ref h]) C hZ.2.2 (tX3_init _ g q1) gX5_init_X3_init_n9 (host := RX5) (by decide +kernel) kwX5_init_6 kwX5_init_7 rfl rfl dsX3_init rfl rfl ⟨(Nat.le_of_ble_eq_true rfl), (Nat.le_of_ble_eq_true rfl)⟩ rfl (Nat.le_of_ble_eq_true rfl) dX5_init_9 ⟨(Nat.le_of_ble_eq_true rfl), (Nat.le_of_ble_eq_true rfl)⟩) List.perm_append_comm (fun _ => List.perm_append_comm) (fun a1 h1 => ?_)
  show St x 2 88 (([(h, .inr (5, [.null, .null, .int 0, .int 0, .null, .int 0, .null, .null, .null, .int 0, .int 0, .null, .int 0]))] ++ tW g a1 zRS)) _ _ 12
  refine r_putF (cn := RX5) (T := TX5) (N := 13) (ci := 5) (ws' := ([(h, .inr (5, [.ref q1, .null, .int 0, .int 0, .null, .int 0, .null, .null, .null, .int 0, .int 0, .null, .int 0]))] ++ tW g a1 zRS)) C uwX5_init_5 tyX5 tyX5_ok nmX5 0 rfl rfl 0 (by decide) kwX5_init_8 rfl rfl rfl rfl rfl (Nat.le_of_ble_eq_true rfl) dX5_init_12 rfl ?_
  refine r_aload_n C dX5_init_15 rfl ?_
  refine r_bipush (v := 20) C dX5_init_16 (by decide) ?_
  refine r_newq C hZ.2.2 kwX5_init_10 (N' := 20) (by decide) (by decide) (by decide) (Nat.le_of_ble_eq_true rfl) (Nat.le_of_ble_eq_true rfl) dX5_init_18 (fun q2 => ?_)
  show St x 3 108 ((([(h, .inr (5, [.ref q1, .null, .int 0, .int 0, .null, .int 0, .null, .null, .null, .int 0, .int 0, .null, .int 0]))] ++ tW g a1 zRS) ++ [(q2, .inl (g.2 4, 20, .inr (.inr (.inr (.inr (fun _ => none))))))])) _ _ 21
  refine r_putF (cn := RX5) (T := TX5) (N := 13) (ci := 5) (ws' := (([(h, .inr (5, [.ref q1, .ref q2, .int 0, .int 0, .null, .int 0, .null, .null, .null, .int 0, .int 0, .null, .int 0]))] ++ tW g a1 zRS) ++ [(q2, .inl (g.2 4, 20, .inr (.inr (.inr (.inr (fun _ => none))))))])) C uwX5_init_5 tyX5 tyX5_ok nmX5 0 rfl rfl 1 (by decide) kwX5_init_11 rfl rfl rfl rfl rfl (Nat.le_of_ble_eq_true rfl) dX5_init_21 rfl ?_
  refine r_aload_n C dX5_init_24 rfl ?_
  refine r_sipush (v := 200) C dX5_init_25 (by decide) ?_
  refine r_newa C 3 (ty := .byte) rfl (fun C h => by cases h) rfl kwX5_init_12 (N' := 200) (a0 := (200, .inl (fun _ => 0))) (fun _ => rfl) (by decide) (by decide) (by decide) (Nat.le_of_ble_eq_true rfl) (Nat.le_of_ble_eq_true rfl) dX5_init_28 (fun q3 => ?_)
  show St x 4 308 (((([(h, .inr (5, [.ref q1, .ref q2, .int 0, .int 0, .null, .int 0, .null, .null, .null, .int 0, .int 0, .null, .int 0]))] ++ tW g a1 zRS) ++ [(q2, .inl (g.2 4, 20, .inr (.inr (.inr (.inr (fun _ => none))))))]) ++ [(q3, .inl (g.2 3, 200, .inl (fun _ => 0)))])) _ _ 30
  refine r_putF (cn := RX5) (T := TX5) (N := 13) (ci := 5) (ws' := ((([(h, .inr (5, [.ref q1, .ref q2, .int 0, .int 0, .ref q3, .int 0, .null, .null, .null, .int 0, .int 0, .null, .int 0]))] ++ tW g a1 zRS) ++ [(q2, .inl (g.2 4, 20, .inr (.inr (.inr (.inr (fun _ => none))))))]) ++ [(q3, .inl (g.2 3, 200, .inl (fun _ => 0)))])) C uwX5_init_5 tyX5 tyX5_ok nmX5 0 rfl rfl 4 (by decide) kwX5_init_13 rfl rfl rfl rfl rfl (Nat.le_of_ble_eq_true rfl) dX5_init_30 rfl ?_
  refine r_aload_n C dX5_init_33 rfl ?_
  refine r_newobj C uwX5_init_2 tyX2 tyX2_ok kwX5_init_15 kwX5_init_16 kwX5_init_17 (ci := 2) rfl (fs := [.null, .int 0]) df_X2 (Nat.le_of_ble_eq_true rfl) (Nat.le_of_ble_eq_true rfl) dX5_init_34 (fun q4 => ?_)
  show St x 5 310 ((((([(h, .inr (5, [.ref q1, .ref q2, .int 0, .int 0, .ref q3, .int 0, .null, .null, .null, .int 0, .int 0, .null, .int 0]))] ++ tW g a1 zRS) ++ [(q2, .inl (g.2 4, 20, .inr (.inr (.inr (.inr (fun _ => none))))))]) ++ [(q3, .inl (g.2 3, 200, .inl (fun _ => 0)))]) ++ [(q4, .inr (2, [.null, .int 0]))])) _ _ 37
  refine r_dup C dX5_init_37 rfl ?_
  refine callP_V (ws' := fun z => (((([(h, .inr (5, [.ref q1, .ref q2, .int 0, .int 0, .ref q3, .int 0, .null, .null, .null, .int 0, .int 0, .null, .int 0]))] ++ tW g a1 zRS) ++ [(q2, .inl (g.2 4, 20, .inr (.inr (.inr (.inr (fun _ => none))))))]) ++ [(q3, .inl (g.2 3, 200, .inl (fun _ => 0)))]) ++ pW g z zRS)) C (run_IN (As := []) (rest := [.ref q4, .ref h]) C hZ.2.2 (tX2_init _ g q4) gX5_init_X2_init_n28 (host := RX5) (by decide +kernel) kwX5_init_17 kwX5_init_18 rfl rfl dsX2_init rfl rfl ⟨(Nat.le_of_ble_eq_true rfl), (Nat.le_of_ble_eq_true rfl)⟩ rfl (Nat.le_of_ble_eq_true rfl) dX5_init_38 ⟨(Nat.le_of_ble_eq_true rfl), (Nat.le_of_ble_eq_true rfl)⟩) List.perm_append_comm (fun _ => List.perm_append_comm) (fun a4 h4 => ?_)
  show St x 6 330 ((((([(h, .inr (5, [.ref q1, .ref q2, .int 0, .int 0, .ref q3, .int 0, .null, .null, .null, .int 0, .int 0, .null, .int 0]))] ++ tW g a1 zRS) ++ [(q2, .inl (g.2 4, 20, .inr (.inr (.inr (.inr (fun _ => none))))))]) ++ [(q3, .inl (g.2 3, 200, .inl (fun _ => 0)))]) ++ pW g a4 zRS)) _ _ 41
  refine r_putF (cn := RX5) (T := TX5) (N := 13) (ci := 5) (ws' := (((([(h, .inr (5, [.ref q1, .ref q2, .int 0, .int 0, .ref q3, .int 0, .ref q4, .null, .null, .int 0, .int 0, .null, .int 0]))] ++ tW g a1 zRS) ++ [(q2, .inl (g.2 4, 20, .inr (.inr (.inr (.inr (fun _ => none))))))]) ++ [(q3, .inl (g.2 3, 200, .inl (fun _ => 0)))]) ++ pW g a4 zRS)) C uwX5_init_5 tyX5 tyX5_ok nmX5 0 rfl rfl 6 (by decide) kwX5_init_19 rfl rfl rfl rfl rfl (Nat.le_of_ble_eq_true rfl) dX5_init_41 rfl ?_
  refine r_aload_n C dX5_init_44 rfl ?_
  refine r_newobj C uwX5_init_0 tyX0 tyX0_ok kwX5_init_21 kwX5_init_22 kwX5_init_23 (ci := 0) rfl (fs := [.int 0, .null, .null, .null, .null, .null, .int 0, .null, .null, .null]) df_X0 (Nat.le_of_ble_eq_true rfl) (Nat.le_of_ble_eq_true rfl) dX5_init_45 (fun q5 => ?_)
  show St x 7 340 (((((([(h, .inr (5, [.ref q1, .ref q2, .int 0, .int 0, .ref q3, .int 0, .ref q4, .null, .null, .int 0, .int 0, .null, .int 0]))] ++ tW g a1 zRS) ++ [(q2, .inl (g.2 4, 20, .inr (.inr (.inr (.inr (fun _ => none))))))]) ++ [(q3, .inl (g.2 3, 200, .inl (fun _ => 0)))]) ++ pW g a4 zRS) ++ [(q5, .inr (0, [.int 0, .null, .null, .null, .null, .null, .int 0, .null, .null, .null]))])) _ _ 48
  refine r_dup C dX5_init_48 rfl ?_
  refine callP_V (ws' := fun z => ((((([(h, .inr (5, [.ref q1, .ref q2, .int 0, .int 0, .ref q3, .int 0, .ref q4, .null, .null, .int 0, .int 0, .null, .int 0]))] ++ tW g a1 zRS) ++ [(q2, .inl (g.2 4, 20, .inr (.inr (.inr (.inr (fun _ => none))))))]) ++ [(q3, .inl (g.2 3, 200, .inl (fun _ => 0)))]) ++ pW g a4 zRS) ++ gW g z zRS)) C (run_IN (As := []) (rest := [.ref q5, .ref h]) C hZ.2.2 (tX0_init _ g q5) gX5_init_X0_init_n35 (host := RX5) (by decide +kernel) kwX5_init_23 kwX5_init_24 rfl rfl dsX0_init rfl rfl ⟨(Nat.le_of_ble_eq_true rfl), (Nat.le_of_ble_eq_true rfl)⟩ rfl (Nat.le_of_ble_eq_true rfl) dX5_init_49 ⟨(Nat.le_of_ble_eq_true rfl), (Nat.le_of_ble_eq_true rfl)⟩) List.perm_append_comm (fun _ => List.perm_append_comm) (fun a5 h5 => ?_)
  show St x 15 2532 (((((([(h, .inr (5, [.ref q1, .ref q2, .int 0, .int 0, .ref q3, .int 0, .ref q4, .null, .null, .int 0, .int 0, .null, .int 0]))] ++ tW g a1 zRS) ++ [(q2, .inl (g.2 4, 20, .inr (.inr (.inr (.inr (fun _ => none))))))]) ++ [(q3, .inl (g.2 3, 200, .inl (fun _ => 0)))]) ++ pW g a4 zRS) ++ gW g a5 zRS)) _ _ 52
  refine r_putF (cn := RX5) (T := TX5) (N := 13) (ci := 5) (ws' := ((((([(h, .inr (5, [.ref q1, .ref q2, .int 0, .int 0, .ref q3, .int 0, .ref q4, .ref q5, .null, .int 0, .int 0, .null, .int 0]))] ++ tW g a1 zRS) ++ [(q2, .inl (g.2 4, 20, .inr (.inr (.inr (.inr (fun _ => none))))))]) ++ [(q3, .inl (g.2 3, 200, .inl (fun _ => 0)))]) ++ pW g a4 zRS) ++ gW g a5 zRS)) C uwX5_init_5 tyX5 tyX5_ok nmX5 0 rfl rfl 7 (by decide) kwX5_init_25 rfl rfl rfl rfl rfl (Nat.le_of_ble_eq_true rfl) dX5_init_52 rfl ?_
  refine r_aload_n C dX5_init_55 rfl ?_
  refine r_newobj C uwX5_init_0 tyX0 tyX0_ok kwX5_init_21 kwX5_init_22 kwX5_init_23 (ci := 0) rfl (fs := [.int 0, .null, .null, .null, .null, .null, .int 0, .null, .null, .null]) df_X0 (Nat.le_of_ble_eq_true rfl) (Nat.le_of_ble_eq_true rfl) dX5_init_56 (fun q6 => ?_)
  show St x 16 2542 ((((((([(h, .inr (5, [.ref q1, .ref q2, .int 0, .int 0, .ref q3, .int 0, .ref q4, .ref q5, .null, .int 0, .int 0, .null, .int 0]))] ++ tW g a1 zRS) ++ [(q2, .inl (g.2 4, 20, .inr (.inr (.inr (.inr (fun _ => none))))))]) ++ [(q3, .inl (g.2 3, 200, .inl (fun _ => 0)))]) ++ pW g a4 zRS) ++ gW g a5 zRS) ++ [(q6, .inr (0, [.int 0, .null, .null, .null, .null, .null, .int 0, .null, .null, .null]))])) _ _ 59
  refine r_dup C dX5_init_59 rfl ?_
  refine callP_V (ws' := fun z => (((((([(h, .inr (5, [.ref q1, .ref q2, .int 0, .int 0, .ref q3, .int 0, .ref q4, .ref q5, .null, .int 0, .int 0, .null, .int 0]))] ++ tW g a1 zRS) ++ [(q2, .inl (g.2 4, 20, .inr (.inr (.inr (.inr (fun _ => none))))))]) ++ [(q3, .inl (g.2 3, 200, .inl (fun _ => 0)))]) ++ pW g a4 zRS) ++ gW g a5 zRS) ++ gW g z zRS)) C (run_IN (As := []) (rest := [.ref q6, .ref h]) C hZ.2.2 (tX0_init _ g q6) gX5_init_X0_init_n35 (host := RX5) (by decide +kernel) kwX5_init_23 kwX5_init_24 rfl rfl dsX0_init rfl rfl ⟨(Nat.le_of_ble_eq_true rfl), (Nat.le_of_ble_eq_true rfl)⟩ rfl (Nat.le_of_ble_eq_true rfl) dX5_init_60 ⟨(Nat.le_of_ble_eq_true rfl), (Nat.le_of_ble_eq_true rfl)⟩) List.perm_append_comm (fun _ => List.perm_append_comm) (fun a6 h6 => ?_)
  show St x 24 4734 ((((((([(h, .inr (5, [.ref q1, .ref q2, .int 0, .int 0, .ref q3, .int 0, .ref q4, .ref q5, .null, .int 0, .int 0, .null, .int 0]))] ++ tW g a1 zRS) ++ [(q2, .inl (g.2 4, 20, .inr (.inr (.inr (.inr (fun _ => none))))))]) ++ [(q3, .inl (g.2 3, 200, .inl (fun _ => 0)))]) ++ pW g a4 zRS) ++ gW g a5 zRS) ++ gW g a6 zRS)) _ _ 63
  refine r_putF (cn := RX5) (T := TX5) (N := 13) (ci := 5) (ws' := (((((([(h, .inr (5, [.ref q1, .ref q2, .int 0, .int 0, .ref q3, .int 0, .ref q4, .ref q5, .ref q6, .int 0, .int 0, .null, .int 0]))] ++ tW g a1 zRS) ++ [(q2, .inl (g.2 4, 20, .inr (.inr (.inr (.inr (fun _ => none))))))]) ++ [(q3, .inl (g.2 3, 200, .inl (fun _ => 0)))]) ++ pW g a4 zRS) ++ gW g a5 zRS) ++ gW g a6 zRS)) C uwX5_init_5 tyX5 tyX5_ok nmX5 0 rfl rfl 8 (by decide) kwX5_init_26 rfl rfl rfl rfl rfl (Nat.le_of_ble_eq_true rfl) dX5_init_63 rfl ?_
  refine r_aload_n C dX5_init_66 rfl ?_
  refine r_newobj C uwX5_init_4 tyX4 tyX4_ok kwX5_init_28 kwX5_init_29 kwX5_init_30 (ci := 4) rfl (fs := [.null, .null, .null, .int 0, .int 0]) df_X4 (Nat.le_of_ble_eq_true rfl) (Nat.le_of_ble_eq_true rfl) dX5_init_67 (fun q7 => ?_)
  show St x 25 4739 (((((((([(h, .inr (5, [.ref q1, .ref q2, .int 0, .int 0, .ref q3, .int 0, .ref q4, .ref q5, .ref q6, .int 0, .int 0, .null, .int 0]))] ++ tW g a1 zRS) ++ [(q2, .inl (g.2 4, 20, .inr (.inr (.inr (.inr (fun _ => none))))))]) ++ [(q3, .inl (g.2 3, 200, .inl (fun _ => 0)))]) ++ pW g a4 zRS) ++ gW g a5 zRS) ++ gW g a6 zRS) ++ [(q7, .inr (4, [.null, .null, .null, .int 0, .int 0]))])) _ _ 70
  refine r_dup C dX5_init_70 rfl ?_
  refine callP_V (ws' := fun z => ((((((([(h, .inr (5, [.ref q1, .ref q2, .int 0, .int 0, .ref q3, .int 0, .ref q4, .ref q5, .ref q6, .int 0, .int 0, .null, .int 0]))] ++ tW g a1 zRS) ++ [(q2, .inl (g.2 4, 20, .inr (.inr (.inr (.inr (fun _ => none))))))]) ++ [(q3, .inl (g.2 3, 200, .inl (fun _ => 0)))]) ++ pW g a4 zRS) ++ gW g a5 zRS) ++ gW g a6 zRS) ++ yW g z zRS (fun _ => none))) C (run_IN (As := []) (rest := [.ref q7, .ref h]) C hZ.2.2 (tX4_init _ g q7) gX5_init_X4_init_n45 (host := RX5) (by decide +kernel) kwX5_init_30 kwX5_init_31 rfl rfl dsX4_init rfl rfl ⟨(Nat.le_of_ble_eq_true rfl), (Nat.le_of_ble_eq_true rfl)⟩ rfl (Nat.le_of_ble_eq_true rfl) dX5_init_71 ⟨(Nat.le_of_ble_eq_true rfl), (Nat.le_of_ble_eq_true rfl)⟩) List.perm_append_comm (fun _ => List.perm_append_comm) (fun a7 h7 => ?_)
  show St x 28 4751 (((((((([(h, .inr (5, [.ref q1, .ref q2, .int 0, .int 0, .ref q3, .int 0, .ref q4, .ref q5, .ref q6, .int 0, .int 0, .null, .int 0]))] ++ tW g a1 zRS) ++ [(q2, .inl (g.2 4, 20, .inr (.inr (.inr (.inr (fun _ => none))))))]) ++ [(q3, .inl (g.2 3, 200, .inl (fun _ => 0)))]) ++ pW g a4 zRS) ++ gW g a5 zRS) ++ gW g a6 zRS) ++ yW g a7 zRS (fun _ => none))) _ _ 74
  refine r_putF (cn := RX5) (T := TX5) (N := 13) (ci := 5) (ws' := ((((((([(h, .inr (5, [.ref q1, .ref q2, .int 0, .int 0, .ref q3, .int 0, .ref q4, .ref q5, .ref q6, .int 0, .int 0, .ref q7, .int 0]))] ++ tW g a1 zRS) ++ [(q2, .inl (g.2 4, 20, .inr (.inr (.inr (.inr (fun _ => none))))))]) ++ [(q3, .inl (g.2 3, 200, .inl (fun _ => 0)))]) ++ pW g a4 zRS) ++ gW g a5 zRS) ++ gW g a6 zRS) ++ yW g a7 zRS (fun _ => none))) C uwX5_init_5 tyX5 tyX5_ok nmX5 0 rfl rfl 11 (by decide) kwX5_init_32 rfl rfl rfl rfl rfl (Nat.le_of_ble_eq_true rfl) dX5_init_74 rfl ?_
  have h1 : a1 50 = q1 := h1
  subst h1
  have h4 : a4 50 = q4 := h4
  subst h4
  have h5 : a5 50 = q5 := h5
  subst h5
  have h6 : a6 50 = q6 := h6
  subst h6
  have h7 : a7 50 = q7 := h7
  subst h7
  refine r_perm (ws' := sysW g (adr2 [adr [(50, h), (1, q2), (4, q3)], a1, a4, a5, a6, a7]) zRS (fun _ => none) zRS zRS zRS zRS zRS (fun _ => none) [] (fun _ => zRS)) (initP (T := tW g a1 zRS) (P := pW g a4 zRS) (D := gW g a5 zRS) (S := gW g a6 zRS) (Y := yW g a7 zRS (fun _ => none))) ?_
  exact r_vret C hZ (u := (adr2 [adr [(50, h), (1, q2), (4, q3)], a1, a4, a5, a6, a7])) rfl rfl dX5_init_77
