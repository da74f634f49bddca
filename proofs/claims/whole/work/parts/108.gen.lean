theorem kwX6_any_0 : Cond.fieldLink RX6 104 "WantsBenchModel" "fault" "I" ∈ wsX6_any := by decide +kernel
theorem uwX6_any_6 : ∀ w ∈ wsX60, w ∈ wsX6_any := by decide +kernel
theorem kwX6_any_2 : Cond.fieldLink RX6 101 "WantsBenchModel" "at" "I" ∈ wsX6_any := by decide +kernel
def fX6_any_5b (Zall : RS → (Int64 → RS → Prop) → Prop) (N : Nat) (S : RS) (v1 : Int64) (R : Int64 → RS → Prop) (K : Int64 → RS → Prop) (Q : Int64 → RS → Prop) : Prop :=
  ((0 ≤ (S.1 37) → K v1 S) ∧ (¬ 0 ≤ (S.1 37) → (fX6_byteAt N S (fun r4 => ((¬ r4 = 124 → K v1 S) ∧ (r4 = 124 → (∀ S6 : RS, S6 = sI S 35 ((S.1 35) + (1 : Int32)) → (Zall S6 (fun r7 S8 => (∀ x9 : Int64, x9 = v1 ||| r7 → R x9 S8))))))))))
set_option maxRecDepth 100000 in
set_option maxHeartbeats 4000000 in
theorem wfX6_any_5b {x : Nx} {g : Gx} {W0 : va_W} {a : Nat → Nat} {S : RS} {Zall : RS → (Int64 → RS → Prop) → Prop} {N : Nat} {v1 : Int64} {R : Int64 → RS → Prop} {K : Int64 → RS → Prop} {Q : Int64 → RS → Prop} {rm : Room} (hF : 1 ≤ rm.frames ∧ 20 ≤ rm.locals ∧ rm.cells = 0 ∧ rm.slots = 0) (C : Cx x g cX6_any RX6 wsX6_any rm yX6_any (some .long) 3) (hZ : Zq x g W0 (fun u : RS => mW g a u) (qL (fun (r : Int64) (u : RS) => Q r u)) 0 0) {rmZall : Room} (hRZall : rmZall.frames + 1 ≤ rm.frames ∧ 8 + (3 + 11) + rmZall.locals ≤ rm.locals) (hzZall : rmZall.cells = 0 ∧ rmZall.slots = 0) (hZall : ∀ (S : RS)  (Q : Int64 → RS → Prop), Zall S Q → MetG (xl x) g yX6_all wsX6_all rmZall [.ref (a 50)] (mW g a S) (fun u : RS => mW g a u) (qL (fun (r : Int64) (u : RS) => Q r u)) 0 0) (hR : ∀ (w1 : Int64) (S_ : RS), R w1 S_ → St x 0 0 (mW g a S_) [(0, .ref (a 50)), (1, .long w1)] [] 5) (hK : ∀ (w1 : Int64) (S_ : RS), K w1 S_ → St x 0 0 (mW g a S_) [(1, .long w1)] [] 41) (h : fX6_any_5b Zall N S v1 R K Q) : St x 0 0 (mW g a S) [(0, .ref (a 50)), (1, .long v1)] [] 5 := by
  unfold fX6_any_5b at h
  refine r_aload_n C dX6_any_5 rfl ?_
  refine r_get (cn := RX6) (T := TX6) (N := 43) (ci := 6) C uwX6_any_6 0 rfl rfl 37 (by decide) kwX6_any_0 (v := .int (S.1 37)) rfl dX6_any_6 ?_
  refine r_if_ge (tgt := 41) C dX6_any_9 (by decide) (fun c3 => ?_) (fun c3 => ?_)
  · have h := h.1 c3
    refine r_sub [1] (lv' := [(1, .long v1)]) rfl ?_
    exact hK v1 S h
  · have h := h.2 c3
    refine r_aload_n C dX6_any_12 rfl ?_
    refine callR_I C (run_V (As := []) (rest := []) (ci := 6) C hZ.2.2 (tX6_byteAt _ g a S N _ h) gX6_any_X6_byteAt rfl dsX6_byteAt rfl rfl ⟨Nat.le_trans (Nat.le_of_ble_eq_true rfl) hF.1, Nat.le_trans (Nat.le_of_ble_eq_true rfl) hF.2.1⟩ rfl (List.mem_of_getElem? (i := 0) rfl) rfl (Nat.le_of_ble_eq_true rfl) dX6_any_13 ⟨Nat.zero_le _, Nat.zero_le _⟩) (List.Sublist.refl _) (fun _ => rfl) (fun r4 _ h => ?_)
    refine r_bipush (v := 124) C dX6_any_16 (by decide) ?_
    refine r_icmp_ne (tgt := 41) C dX6_any_18 (by decide) (fun c5 => ?_) (fun c5 => ?_)
    · have h := h.1 c5
      refine r_sub [1] (lv' := [(1, .long v1)]) rfl ?_
      exact hK v1 S h
    · have h := h.2 c5
      refine r_aload_n C dX6_any_21 rfl ?_
      refine r_dup C dX6_any_22 rfl ?_
      refine r_get (cn := RX6) (T := TX6) (N := 43) (ci := 6) C uwX6_any_6 0 rfl rfl 35 (by decide) kwX6_any_2 (v := .int (S.1 35)) rfl dX6_any_23 ?_
      refine r_iconst (v := 1) C dX6_any_26 (by decide) ?_
      refine r_iadd C dX6_any_27 ?_
      obtain ⟨S6, hS6⟩ : ∃ z : RS, z = sI S 35 ((S.1 35) + (1 : Int32)) := ⟨_, rfl⟩
      have h := h S6 hS6
      refine r_put (cn := RX6) (T := TX6) (N := 43) (ci := 6) (ws' := mW g a S6) C uwX6_any_6 tyX6 tyX6_ok nmX6 0 rfl rfl 35 (by decide) kwX6_any_2 rfl rfl rfl (Nat.le_of_ble_eq_true rfl) dX6_any_28 (by rw [hS6]; rfl) ?_
      refine r_lload_n C dX6_any_31 rfl ?_
      refine r_aload_n C dX6_any_32 rfl ?_
      refine callW_L C (run_V (As := []) (rest := [.long v1]) (ci := 6) C hZ.2.2 (hZall S6 _ h) gX6_any_X6_all rfl dsX6_all hzZall.1 hzZall.2 hRZall rfl (List.mem_of_getElem? (i := 0) rfl) rfl (Nat.le_of_ble_eq_true rfl) dX6_any_33 ⟨Nat.zero_le _, Nat.zero_le _⟩) (fun r7 S8 h => ?_)
      show St x 0 0 (mW g a S8) _ _ 36
      refine r_lor C dX6_any_36 ?_
      refine r_topl (fun x9 ex9 => ?_)
      have h := h x9 ex9
      refine r_lstore_n (lv' := [(0, .ref (a 50)), (1, .long x9)]) C dX6_any_37 [some 0, none] (by decide) rfl rfl ?_
      refine r_goto (tgt := 5) C dX6_any_38 (by decide) ?_
      exact hR x9 S8 h
def fX6_any_5 (Zall : RS → (Int64 → RS → Prop) → Prop) (N : Nat) (K : Int64 → RS → Prop) (Q : Int64 → RS → Prop) : Nat → Int64 → RS → Prop
  | 0, _, _ => False
  | n + 1, v1, S => fX6_any_5b Zall N S v1 (fun v1 S => fX6_any_5 Zall N K Q n v1 S) K Q
set_option maxRecDepth 100000 in
set_option maxHeartbeats 4000000 in
theorem wfX6_any_5 {x : Nx} {g : Gx} {W0 : va_W} {a : Nat → Nat}  {Zall : RS → (Int64 → RS → Prop) → Prop} {N : Nat} {K : Int64 → RS → Prop} {Q : Int64 → RS → Prop} {rm : Room} (hF : 1 ≤ rm.frames ∧ 20 ≤ rm.locals ∧ rm.cells = 0 ∧ rm.slots = 0) (C : Cx x g cX6_any RX6 wsX6_any rm yX6_any (some .long) 3) (hZ : Zq x g W0 (fun u : RS => mW g a u) (qL (fun (r : Int64) (u : RS) => Q r u)) 0 0) {rmZall : Room} (hRZall : rmZall.frames + 1 ≤ rm.frames ∧ 8 + (3 + 11) + rmZall.locals ≤ rm.locals) (hzZall : rmZall.cells = 0 ∧ rmZall.slots = 0) (hZall : ∀ (S : RS)  (Q : Int64 → RS → Prop), Zall S Q → MetG (xl x) g yX6_all wsX6_all rmZall [.ref (a 50)] (mW g a S) (fun u : RS => mW g a u) (qL (fun (r : Int64) (u : RS) => Q r u)) 0 0) (hK : ∀ (w1 : Int64) (S_ : RS), K w1 S_ → St x 0 0 (mW g a S_) [(1, .long w1)] [] 41) : ∀ (n : Nat) (v1 : Int64) (S : RS), fX6_any_5 Zall N K Q n v1 S → St x 0 0 (mW g a S) [(0, .ref (a 50)), (1, .long v1)] [] 5 := by
  intro n
  induction n with
  | zero => intro v1 S h; exact False.elim h
  | succ n ih => intro v1 S h; exact wfX6_any_5b hF C hZ hRZall hzZall hZall ih hK h
def bX6_any (Zall : RS → (Int64 → RS → Prop) → Prop) (N : Nat) (S : RS) (Q : Int64 → RS → Prop) : Prop :=
  (Zall S (fun r1 S2 => (fX6_any_5 Zall N (fun x10 S11 => Q x10 S11) Q N r1 S2)))
set_option maxRecDepth 100000 in
set_option maxHeartbeats 4000000 in
theorem tbX6_any (l : Launch) (g : Gx) (a : Nat → Nat) (S : RS) {Zall : RS → (Int64 → RS → Prop) → Prop} (N : Nat) (Q : Int64 → RS → Prop) {rm : Room} (hF : 1 ≤ rm.frames ∧ 20 ≤ rm.locals ∧ rm.cells = 0 ∧ rm.slots = 0) {rmZall : Room} (hRZall : rmZall.frames + 1 ≤ rm.frames ∧ 8 + (3 + 11) + rmZall.locals ≤ rm.locals) (hzZall : rmZall.cells = 0 ∧ rmZall.slots = 0) (hZall : ∀ (S : RS)  (Q : Int64 → RS → Prop), Zall S Q → MetG l g yX6_all wsX6_all rmZall [.ref (a 50)] (mW g a S) (fun u : RS => mW g a u) (qL (fun (r : Int64) (u : RS) => Q r u)) 0 0) (h : bX6_any Zall N S Q) : MetG l g yX6_any wsX6_any rm [.ref (a 50)] (mW g a S) (fun u : RS => mW g a u) (qL (fun (r : Int64) (u : RS) => Q r u)) 0 0 := by
  refine met_of (cc := cX6_any) (own := RX6) (nL := 3) (ret := (some .long)) (lv := [(0, .ref (a 50))]) (by decide) rfl rfl (Nat.le_of_ble_eq_true rfl) rfl ?_
  intro x C hl hZ
  subst hl
  unfold bX6_any at h
  refine r_aload_n C dX6_any_0 rfl ?_
  refine callW_L C (run_V (As := []) (rest := []) (ci := 6) C hZ.2.2 (hZall S _ h) gX6_any_X6_all rfl dsX6_all hzZall.1 hzZall.2 hRZall rfl (List.mem_of_getElem? (i := 0) rfl) rfl (Nat.le_of_ble_eq_true rfl) dX6_any_1 ⟨Nat.zero_le _, Nat.zero_le _⟩) (fun r1 S2 h => ?_)
  show St x 0 0 (mW g a S2) _ _ 4
  refine r_lstore_n (lv' := [(0, .ref (a 50)), (1, .long r1)]) C dX6_any_4 [some 0, none] (by decide) rfl rfl ?_
  refine wfX6_any_5 hF C hZ hRZall hzZall hZall (fun x10 S11 h => ?_) N _ _ h
  refine r_lload_n C dX6_any_41 rfl ?_
  exact r_lret C hZ (u := S11) h rfl dX6_any_42
theorem kwX6_all_0 : Cond.fieldLink RX6 104 "WantsBenchModel" "fault" "I" ∈ wsX6_all := by decide +kernel
theorem uwX6_all_6 : ∀ w ∈ wsX60, w ∈ wsX6_all := by decide +kernel
theorem kwX6_all_2 : Cond.fieldLink RX6 101 "WantsBenchModel" "at" "I" ∈ wsX6_all := by decide +kernel
def fX6_all_5b (Zone : RS → (Int64 → RS → Prop) → Prop) (N : Nat) (S : RS) (v1 : Int64) (R : Int64 → RS → Prop) (K : Int64 → RS → Prop) (Q : Int64 → RS → Prop) : Prop :=
  ((0 ≤ (S.1 37) → K v1 S) ∧ (¬ 0 ≤ (S.1 37) → (fX6_byteAt N S (fun r4 => ((¬ r4 = 38 → K v1 S) ∧ (r4 = 38 → (∀ S6 : RS, S6 = sI S 35 ((S.1 35) + (1 : Int32)) → (Zone S6 (fun r7 S8 => (∀ x9 : Int64, x9 = v1 &&& r7 → R x9 S8))))))))))
set_option maxRecDepth 100000 in
set_option maxHeartbeats 4000000 in
theorem wfX6_all_5b {x : Nx} {g : Gx} {W0 : va_W} {a : Nat → Nat} {S : RS} {Zone : RS → (Int64 → RS → Prop) → Prop} {N : Nat} {v1 : Int64} {R : Int64 → RS → Prop} {K : Int64 → RS → Prop} {Q : Int64 → RS → Prop} {rm : Room} (hF : 1 ≤ rm.frames ∧ 20 ≤ rm.locals ∧ rm.cells = 0 ∧ rm.slots = 0) (C : Cx x g cX6_all RX6 wsX6_all rm yX6_all (some .long) 3) (hZ : Zq x g W0 (fun u : RS => mW g a u) (qL (fun (r : Int64) (u : RS) => Q r u)) 0 0) {rmZone : Room} (hRZone : rmZone.frames + 1 ≤ rm.frames ∧ 8 + (4 + 11) + rmZone.locals ≤ rm.locals) (hzZone : rmZone.cells = 0 ∧ rmZone.slots = 0) (hZone : ∀ (S : RS)  (Q : Int64 → RS → Prop), Zone S Q → MetG (xl x) g yX6_one wsX6_one rmZone [.ref (a 50)] (mW g a S) (fun u : RS => mW g a u) (qL (fun (r : Int64) (u : RS) => Q r u)) 0 0) (hR : ∀ (w1 : Int64) (S_ : RS), R w1 S_ → St x 0 0 (mW g a S_) [(0, .ref (a 50)), (1, .long w1)] [] 5) (hK : ∀ (w1 : Int64) (S_ : RS), K w1 S_ → St x 0 0 (mW g a S_) [(1, .long w1)] [] 41) (h : fX6_all_5b Zone N S v1 R K Q) : St x 0 0 (mW g a S) [(0, .ref (a 50)), (1, .long v1)] [] 5 := by
  unfold fX6_all_5b at h
  refine r_aload_n C dX6_all_5 rfl ?_
  refine r_get (cn := RX6) (T := TX6) (N := 43) (ci := 6) C uwX6_all_6 0 rfl rfl 37 (by decide) kwX6_all_0 (v := .int (S.1 37)) rfl dX6_all_6 ?_
  refine r_if_ge (tgt := 41) C dX6_all_9 (by decide) (fun c3 => ?_) (fun c3 => ?_)
  · have h := h.1 c3
    refine r_sub [1] (lv' := [(1, .long v1)]) rfl ?_
    exact hK v1 S h
  · have h := h.2 c3
    refine r_aload_n C dX6_all_12 rfl ?_
    refine callR_I C (run_V (As := []) (rest := []) (ci := 6) C hZ.2.2 (tX6_byteAt _ g a S N _ h) gX6_all_X6_byteAt rfl dsX6_byteAt rfl rfl ⟨Nat.le_trans (Nat.le_of_ble_eq_true rfl) hF.1, Nat.le_trans (Nat.le_of_ble_eq_true rfl) hF.2.1⟩ rfl (List.mem_of_getElem? (i := 0) rfl) rfl (Nat.le_of_ble_eq_true rfl) dX6_all_13 ⟨Nat.zero_le _, Nat.zero_le _⟩) (List.Sublist.refl _) (fun _ => rfl) (fun r4 _ h => ?_)
    refine r_bipush (v := 38) C dX6_all_16 (by decide) ?_
    refine r_icmp_ne (tgt := 41) C dX6_all_18 (by decide) (fun c5 => ?_) (fun c5 => ?_)
    · have h := h.1 c5
      refine r_sub [1] (lv' := [(1, .long v1)]) rfl ?_
      exact hK v1 S h
    · have h := h.2 c5
      refine r_aload_n C dX6_all_21 rfl ?_
      refine r_dup C dX6_all_22 rfl ?_
      refine r_get (cn := RX6) (T := TX6) (N := 43) (ci := 6) C uwX6_all_6 0 rfl rfl 35 (by decide) kwX6_all_2 (v := .int (S.1 35)) rfl dX6_all_23 ?_
      refine r_iconst (v := 1) C dX6_all_26 (by decide) ?_
      refine r_iadd C dX6_all_27 ?_
      obtain ⟨S6, hS6⟩ : ∃ z : RS, z = sI S 35 ((S.1 35) + (1 : Int32)) := ⟨_, rfl⟩
      have h := h S6 hS6
      refine r_put (cn := RX6) (T := TX6) (N := 43) (ci := 6) (ws' := mW g a S6) C uwX6_all_6 tyX6 tyX6_ok nmX6 0 rfl rfl 35 (by decide) kwX6_all_2 rfl rfl rfl (Nat.le_of_ble_eq_true rfl) dX6_all_28 (by rw [hS6]; rfl) ?_
      refine r_lload_n C dX6_all_31 rfl ?_
      refine r_aload_n C dX6_all_32 rfl ?_
      refine callW_L C (run_V (As := []) (rest := [.long v1]) (ci := 6) C hZ.2.2 (hZone S6 _ h) gX6_all_X6_one rfl dsX6_one hzZone.1 hzZone.2 hRZone rfl (List.mem_of_getElem? (i := 0) rfl) rfl (Nat.le_of_ble_eq_true rfl) dX6_all_33 ⟨Nat.zero_le _, Nat.zero_le _⟩) (fun r7 S8 h => ?_)
      show St x 0 0 (mW g a S8) _ _ 36
      refine r_land C dX6_all_36 ?_
      refine r_topl (fun x9 ex9 => ?_)
      have h := h x9 ex9
      refine r_lstore_n (lv' := [(0, .ref (a 50)), (1, .long x9)]) C dX6_all_37 [some 0, none] (by decide) rfl rfl ?_
      refine r_goto (tgt := 5) C dX6_all_38 (by decide) ?_
      exact hR x9 S8 h
def fX6_all_5 (Zone : RS → (Int64 → RS → Prop) → Prop) (N : Nat) (K : Int64 → RS → Prop) (Q : Int64 → RS → Prop) : Nat → Int64 → RS → Prop
  | 0, _, _ => False
  | n + 1, v1, S => fX6_all_5b Zone N S v1 (fun v1 S => fX6_all_5 Zone N K Q n v1 S) K Q
set_option maxRecDepth 100000 in
set_option maxHeartbeats 4000000 in
theorem wfX6_all_5 {x : Nx} {g : Gx} {W0 : va_W} {a : Nat → Nat}  {Zone : RS → (Int64 → RS → Prop) → Prop} {N : Nat} {K : Int64 → RS → Prop} {Q : Int64 → RS → Prop} {rm : Room} (hF : 1 ≤ rm.frames ∧ 20 ≤ rm.locals ∧ rm.cells = 0 ∧ rm.slots = 0) (C : Cx x g cX6_all RX6 wsX6_all rm yX6_all (some .long) 3) (hZ : Zq x g W0 (fun u : RS => mW g a u) (qL (fun (r : Int64) (u : RS) => Q r u)) 0 0) {rmZone : Room} (hRZone : rmZone.frames + 1 ≤ rm.frames ∧ 8 + (4 + 11) + rmZone.locals ≤ rm.locals) (hzZone : rmZone.cells = 0 ∧ rmZone.slots = 0) (hZone : ∀ (S : RS)  (Q : Int64 → RS → Prop), Zone S Q → MetG (xl x) g yX6_one wsX6_one rmZone [.ref (a 50)] (mW g a S) (fun u : RS => mW g a u) (qL (fun (r : Int64) (u : RS) => Q r u)) 0 0) (hK : ∀ (w1 : Int64) (S_ : RS), K w1 S_ → St x 0 0 (mW g a S_) [(1, .long w1)] [] 41) : ∀ (n : Nat) (v1 : Int64) (S : RS), fX6_all_5 Zone N K Q n v1 S → St x 0 0 (mW g a S) [(0, .ref (a 50)), (1, .long v1)] [] 5 := by
  intro n
  induction n with
  | zero => intro v1 S h; exact False.elim h
  | succ n ih => intro v1 S h; exact wfX6_all_5b hF C hZ hRZone hzZone hZone ih hK h
def bX6_all (Zone : RS → (Int64 → RS → Prop) → Prop) (N : Nat) (S : RS) (Q : Int64 → RS → Prop) : Prop :=
  (Zone S (fun r1 S2 => (fX6_all_5 Zone N (fun x10 S11 => Q x10 S11) Q N r1 S2)))
set_option maxRecDepth 100000 in
set_option maxHeartbeats 4000000 in
theorem tbX6_all (l : Launch) (g : Gx) (a : Nat → Nat) (S : RS) {Zone : RS → (Int64 → RS → Prop) → Prop} (N : Nat) (Q : Int64 → RS → Prop) {rm : Room} (hF : 1 ≤ rm.frames ∧ 20 ≤ rm.locals ∧ rm.cells = 0 ∧ rm.slots = 0) {rmZone : Room} (hRZone : rmZone.frames + 1 ≤ rm.frames ∧ 8 + (4 + 11) + rmZone.locals ≤ rm.locals) (hzZone : rmZone.cells = 0 ∧ rmZone.slots = 0) (hZone : ∀ (S : RS)  (Q : Int64 → RS → Prop), Zone S Q → MetG l g yX6_one wsX6_one rmZone [.ref (a 50)] (mW g a S) (fun u : RS => mW g a u) (qL (fun (r : Int64) (u : RS) => Q r u)) 0 0) (h : bX6_all Zone N S Q) : MetG l g yX6_all wsX6_all rm [.ref (a 50)] (mW g a S) (fun u : RS => mW g a u) (qL (fun (r : Int64) (u : RS) => Q r u)) 0 0 := by
  refine met_of (cc := cX6_all) (own := RX6) (nL := 3) (ret := (some .long)) (lv := [(0, .ref (a 50))]) (by decide) rfl rfl (Nat.le_of_ble_eq_true rfl) rfl ?_
  intro x C hl hZ
  subst hl
  unfold bX6_all at h
  refine r_aload_n C dX6_all_0 rfl ?_
  refine callW_L C (run_V (As := []) (rest := []) (ci := 6) C hZ.2.2 (hZone S _ h) gX6_all_X6_one rfl dsX6_one hzZone.1 hzZone.2 hRZone rfl (List.mem_of_getElem? (i := 0) rfl) rfl (Nat.le_of_ble_eq_true rfl) dX6_all_1 ⟨Nat.zero_le _, Nat.zero_le _⟩) (fun r1 S2 h => ?_)
  show St x 0 0 (mW g a S2) _ _ 4
  refine r_lstore_n (lv' := [(0, .ref (a 50)), (1, .long r1)]) C dX6_all_4 [some 0, none] (by decide) rfl rfl ?_
  refine wfX6_all_5 hF C hZ hRZone hzZone hZone (fun x10 S11 h => ?_) N _ _ h
  refine r_lload_n C dX6_all_41 rfl ?_
  exact r_lret C hZ (u := S11) h rfl dX6_all_42
theorem kwX6_one_0 : Cond.fieldLink RX6 104 "WantsBenchModel" "fault" "I" ∈ wsX6_one := by decide +kernel
theorem uwX6_one_6 : ∀ w ∈ wsX60, w ∈ wsX6_one := by decide +kernel
theorem kwX6_one_2 : Cond.fieldLink RX6 101 "WantsBenchModel" "at" "I" ∈ wsX6_one := by decide +kernel
theorem kwX6_one_3 : Cond.constantLong RX6 128 (-1) ∈ wsX6_one := by decide +kernel
theorem kwX6_one_4 : Cond.fieldLink RX6 118 "WantsBenchModel" "open" "I" ∈ wsX6_one := by decide +kernel
def fX6_one_174 (Zany : RS → (Int64 → RS → Prop) → Prop) (Zone : RS → (Int64 → RS → Prop) → Prop) (N : Nat) (S : RS) (v1 : Int32) (v2 : Int32) (v3 : Int32) (Q : Int64 → RS → Prop) : Prop :=
  (∀ S8 : RS, S8 = sI S 35 ((S.1 35) + (1 : Int32)) → ((v2 = 0 → ((v3 = 0 → ((¬ v1 = 49 → Q 0 S8) ∧ (v1 = 49 → Q (-1) S8))) ∧ (¬ v3 = 0 → (fX6_letter N (v1 - (120 : Int32)) (fun r12 => Q r12 S8))))) ∧ (¬ v2 = 0 → (fX6_letter N (((3 : Int32) + v1) - (97 : Int32)) (fun r13 => Q r13 S8)))))
set_option maxRecDepth 100000 in
set_option maxHeartbeats 4000000 in
theorem wfX6_one_174 {x : Nx} {g : Gx} {W0 : va_W} {a : Nat → Nat} {S : RS} {Zany : RS → (Int64 → RS → Prop) → Prop} {Zone : RS → (Int64 → RS → Prop) → Prop} {N : Nat} {v1 : Int32} {v2 : Int32} {v3 : Int32} {Q : Int64 → RS → Prop} {rm : Room} (hF : 2 ≤ rm.frames ∧ 42 ≤ rm.locals ∧ rm.cells = 0 ∧ rm.slots = 0) (C : Cx x g cX6_one RX6 wsX6_one rm yX6_one (some .long) 4) (hZ : Zq x g W0 (fun u : RS => mW g a u) (qL (fun (r : Int64) (u : RS) => Q r u)) 0 0) {rmZany : Room} (hRZany : rmZany.frames + 1 ≤ rm.frames ∧ 8 + (3 + 11) + rmZany.locals ≤ rm.locals) (hzZany : rmZany.cells = 0 ∧ rmZany.slots = 0) (hZany : ∀ (S : RS)  (Q : Int64 → RS → Prop), Zany S Q → MetG (xl x) g yX6_any wsX6_any rmZany [.ref (a 50)] (mW g a S) (fun u : RS => mW g a u) (qL (fun (r : Int64) (u : RS) => Q r u)) 0 0) {rmZone : Room} (hRZone : rmZone.frames + 1 ≤ rm.frames ∧ 8 + (4 + 11) + rmZone.locals ≤ rm.locals) (hzZone : rmZone.cells = 0 ∧ rmZone.slots = 0) (hZone : ∀ (S : RS)  (Q : Int64 → RS → Prop), Zone S Q → MetG (xl x) g yX6_one wsX6_one rmZone [.ref (a 50)] (mW g a S) (fun u : RS => mW g a u) (qL (fun (r : Int64) (u : RS) => Q r u)) 0 0) (h : fX6_one_174 Zany Zone N S v1 v2 v3 Q) : St x 0 0 (mW g a S) [(0, .ref (a 50)), (1, .int v1), (2, .int v2), (3, .int v3)] [] 174 := by
  unfold fX6_one_174 at h
  refine r_aload_n C dX6_one_174 rfl ?_
  refine r_dup C dX6_one_175 rfl ?_
  refine r_get (cn := RX6) (T := TX6) (N := 43) (ci := 6) C uwX6_one_6 0 rfl rfl 35 (by decide) kwX6_one_2 (v := .int (S.1 35)) rfl dX6_one_176 ?_
  refine r_iconst (v := 1) C dX6_one_179 (by decide) ?_
  refine r_iadd C dX6_one_180 ?_
  obtain ⟨S8, hS8⟩ : ∃ z : RS, z = sI S 35 ((S.1 35) + (1 : Int32)) := ⟨_, rfl⟩
  have h := h S8 hS8
  refine r_put (cn := RX6) (T := TX6) (N := 43) (ci := 6) (ws' := mW g a S8) C uwX6_one_6 tyX6 tyX6_ok nmX6 0 rfl rfl 35 (by decide) kwX6_one_2 rfl rfl rfl (Nat.le_of_ble_eq_true rfl) dX6_one_181 (by rw [hS8]; rfl) ?_
  refine r_iload_n C dX6_one_184 rfl ?_
  refine r_if_eq (tgt := 200) C dX6_one_185 (by decide) (fun c9 => ?_) (fun c9 => ?_)
  · have h := h.1 c9
    refine r_iload_n C dX6_one_200 rfl ?_
    refine r_if_eq (tgt := 214) C dX6_one_201 (by decide) (fun c10 => ?_) (fun c10 => ?_)
    · have h := h.1 c10
      refine r_iload_n C dX6_one_214 rfl ?_
      refine r_bipush (v := 49) C dX6_one_215 (by decide) ?_
      refine r_icmp_ne (tgt := 226) C dX6_one_217 (by decide) (fun c11 => ?_) (fun c11 => ?_)
      · have h := h.1 c11
        refine r_lconst (v := 0) C dX6_one_226 (by decide) ?_
        exact r_lret C hZ (u := S8) h rfl dX6_one_227
      · have h := h.2 c11
        refine r_ldc2 C kwX6_one_3 dX6_one_220 ?_
        refine r_goto (tgt := 227) C dX6_one_223 (by decide) ?_
        exact r_lret C hZ (u := S8) h rfl dX6_one_227
    · have h := h.2 c10
      refine r_iload_n C dX6_one_204 rfl ?_
      refine r_bipush (v := 120) C dX6_one_205 (by decide) ?_
      refine r_isub C dX6_one_207 ?_
      refine callR_L C (run_S (As := [.int (v1 - (120 : Int32))]) (rest := []) C hZ.2.2 (tX6_letter _ g N (v1 - (120 : Int32)) _ h) gX6_one_X6_letter rfl dsX6_letter rfl rfl ⟨Nat.le_trans (Nat.le_of_ble_eq_true rfl) hF.1, Nat.le_trans (Nat.le_of_ble_eq_true rfl) hF.2.1⟩ rfl (Nat.le_of_ble_eq_true rfl) dX6_one_208 ⟨Nat.zero_le _, Nat.zero_le _⟩) (List.nil_sublist _) (fun _ => rfl) (fun r12 _ h => ?_)
      refine r_goto (tgt := 227) C dX6_one_211 (by decide) ?_
      exact r_lret C hZ (u := S8) h rfl dX6_one_227
  · have h := h.2 c9
    refine r_iconst (v := 3) C dX6_one_188 (by decide) ?_
    refine r_iload_n C dX6_one_189 rfl ?_
    refine r_iadd C dX6_one_190 ?_
    refine r_bipush (v := 97) C dX6_one_191 (by decide) ?_
    refine r_isub C dX6_one_193 ?_
    refine callR_L C (run_S (As := [.int (((3 : Int32) + v1) - (97 : Int32))]) (rest := []) C hZ.2.2 (tX6_letter _ g N (((3 : Int32) + v1) - (97 : Int32)) _ h) gX6_one_X6_letter rfl dsX6_letter rfl rfl ⟨Nat.le_trans (Nat.le_of_ble_eq_true rfl) hF.1, Nat.le_trans (Nat.le_of_ble_eq_true rfl) hF.2.1⟩ rfl (Nat.le_of_ble_eq_true rfl) dX6_one_194 ⟨Nat.zero_le _, Nat.zero_le _⟩) (List.nil_sublist _) (fun _ => rfl) (fun r13 _ h => ?_)
    refine r_goto (tgt := 227) C dX6_one_197 (by decide) ?_
    exact r_lret C hZ (u := S8) h rfl dX6_one_227
def fX6_one_148 (Zany : RS → (Int64 → RS → Prop) → Prop) (Zone : RS → (Int64 → RS → Prop) → Prop) (N : Nat) (S : RS) (v1 : Int32) (v2 : Int32) (k0 : Int32) (Q : Int64 → RS → Prop) : Prop :=
  ((¬ v2 = 0 → (fX6_one_174 Zany Zone N S v1 v2 k0 Q)) ∧ (v2 = 0 → ((¬ k0 = 0 → (fX6_one_174 Zany Zone N S v1 v2 k0 Q)) ∧ (k0 = 0 → ((v1 = 48 → (fX6_one_174 Zany Zone N S v1 v2 k0 Q)) ∧ (¬ v1 = 48 → ((v1 = 49 → (fX6_one_174 Zany Zone N S v1 v2 k0 Q)) ∧ (¬ v1 = 49 → (fX6_wrong N S (fun r17 S18 => Q r17 S18))))))))))
set_option maxRecDepth 100000 in
set_option maxHeartbeats 4000000 in
theorem wfX6_one_148 {x : Nx} {g : Gx} {W0 : va_W} {a : Nat → Nat} {S : RS} {Zany : RS → (Int64 → RS → Prop) → Prop} {Zone : RS → (Int64 → RS → Prop) → Prop} {N : Nat} {v1 : Int32} {v2 : Int32} {k0 : Int32} {Q : Int64 → RS → Prop} {rm : Room} (hF : 2 ≤ rm.frames ∧ 42 ≤ rm.locals ∧ rm.cells = 0 ∧ rm.slots = 0) (C : Cx x g cX6_one RX6 wsX6_one rm yX6_one (some .long) 4) (hZ : Zq x g W0 (fun u : RS => mW g a u) (qL (fun (r : Int64) (u : RS) => Q r u)) 0 0) {rmZany : Room} (hRZany : rmZany.frames + 1 ≤ rm.frames ∧ 8 + (3 + 11) + rmZany.locals ≤ rm.locals) (hzZany : rmZany.cells = 0 ∧ rmZany.slots = 0) (hZany : ∀ (S : RS)  (Q : Int64 → RS → Prop), Zany S Q → MetG (xl x) g yX6_any wsX6_any rmZany [.ref (a 50)] (mW g a S) (fun u : RS => mW g a u) (qL (fun (r : Int64) (u : RS) => Q r u)) 0 0) {rmZone : Room} (hRZone : rmZone.frames + 1 ≤ rm.frames ∧ 8 + (4 + 11) + rmZone.locals ≤ rm.locals) (hzZone : rmZone.cells = 0 ∧ rmZone.slots = 0) (hZone : ∀ (S : RS)  (Q : Int64 → RS → Prop), Zone S Q → MetG (xl x) g yX6_one wsX6_one rmZone [.ref (a 50)] (mW g a S) (fun u : RS => mW g a u) (qL (fun (r : Int64) (u : RS) => Q r u)) 0 0) (h : fX6_one_148 Zany Zone N S v1 v2 k0 Q) : St x 0 0 (mW g a S) [(0, .ref (a 50)), (1, .int v1), (2, .int v2)] [.int k0] 148 := by
  unfold fX6_one_148 at h
  refine r_istore_n (lv' := [(0, .ref (a 50)), (1, .int v1), (2, .int v2), (3, .int k0)]) C dX6_one_148 [some 0, some 1, some 2, none] (by decide) rfl rfl ?_
  refine r_iload_n C dX6_one_149 rfl ?_
  refine r_if_ne (tgt := 174) C dX6_one_150 (by decide) (fun c7 => ?_) (fun c7 => ?_)
  · have h := h.1 c7
    exact wfX6_one_174 hF C hZ hRZany hzZany hZany hRZone hzZone hZone h
  · have h := h.2 c7
    refine r_iload_n C dX6_one_153 rfl ?_
    refine r_if_ne (tgt := 174) C dX6_one_154 (by decide) (fun c14 => ?_) (fun c14 => ?_)
    · have h := h.1 c14
      exact wfX6_one_174 hF C hZ hRZany hzZany hZany hRZone hzZone hZone h
    · have h := h.2 c14
      refine r_iload_n C dX6_one_157 rfl ?_
      refine r_bipush (v := 48) C dX6_one_158 (by decide) ?_
      refine r_icmp_eq (tgt := 174) C dX6_one_160 (by decide) (fun c15 => ?_) (fun c15 => ?_)
      · have h := h.1 c15
        exact wfX6_one_174 hF C hZ hRZany hzZany hZany hRZone hzZone hZone h
      · have h := h.2 c15
        refine r_iload_n C dX6_one_163 rfl ?_
        refine r_bipush (v := 49) C dX6_one_164 (by decide) ?_
        refine r_icmp_eq (tgt := 174) C dX6_one_166 (by decide) (fun c16 => ?_) (fun c16 => ?_)
        · have h := h.1 c16
          exact wfX6_one_174 hF C hZ hRZany hzZany hZany hRZone hzZone hZone h
        · have h := h.2 c16
          refine r_aload_n C dX6_one_169 rfl ?_
          refine callW_L C (run_V (As := []) (rest := []) (ci := 6) C hZ.2.2 (tX6_wrong _ g a S N _ h) gX6_one_X6_wrong rfl dsX6_wrong rfl rfl ⟨Nat.le_trans (Nat.le_of_ble_eq_true rfl) hF.1, Nat.le_trans (Nat.le_of_ble_eq_true rfl) hF.2.1⟩ rfl (List.mem_of_getElem? (i := 0) rfl) rfl (Nat.le_of_ble_eq_true rfl) dX6_one_170 ⟨Nat.zero_le _, Nat.zero_le _⟩) (fun r17 S18 h => ?_)
          show St x 0 0 (mW g a S18) _ _ 173
          exact r_lret C hZ (u := S18) h rfl dX6_one_173
def fX6_one_147 (Zany : RS → (Int64 → RS → Prop) → Prop) (Zone : RS → (Int64 → RS → Prop) → Prop) (N : Nat) (S : RS) (v1 : Int32) (v2 : Int32) (Q : Int64 → RS → Prop) : Prop :=
  (fX6_one_148 Zany Zone N S v1 v2 0 Q)
set_option maxRecDepth 100000 in
set_option maxHeartbeats 4000000 in
theorem wfX6_one_147 {x : Nx} {g : Gx} {W0 : va_W} {a : Nat → Nat} {S : RS} {Zany : RS → (Int64 → RS → Prop) → Prop} {Zone : RS → (Int64 → RS → Prop) → Prop} {N : Nat} {v1 : Int32} {v2 : Int32} {Q : Int64 → RS → Prop} {rm : Room} (hF : 2 ≤ rm.frames ∧ 42 ≤ rm.locals ∧ rm.cells = 0 ∧ rm.slots = 0) (C : Cx x g cX6_one RX6 wsX6_one rm yX6_one (some .long) 4) (hZ : Zq x g W0 (fun u : RS => mW g a u) (qL (fun (r : Int64) (u : RS) => Q r u)) 0 0) {rmZany : Room} (hRZany : rmZany.frames + 1 ≤ rm.frames ∧ 8 + (3 + 11) + rmZany.locals ≤ rm.locals) (hzZany : rmZany.cells = 0 ∧ rmZany.slots = 0) (hZany : ∀ (S : RS)  (Q : Int64 → RS → Prop), Zany S Q → MetG (xl x) g yX6_any wsX6_any rmZany [.ref (a 50)] (mW g a S) (fun u : RS => mW g a u) (qL (fun (r : Int64) (u : RS) => Q r u)) 0 0) {rmZone : Room} (hRZone : rmZone.frames + 1 ≤ rm.frames ∧ 8 + (4 + 11) + rmZone.locals ≤ rm.locals) (hzZone : rmZone.cells = 0 ∧ rmZone.slots = 0) (hZone : ∀ (S : RS)  (Q : Int64 → RS → Prop), Zone S Q → MetG (xl x) g yX6_one wsX6_one rmZone [.ref (a 50)] (mW g a S) (fun u : RS => mW g a u) (qL (fun (r : Int64) (u : RS) => Q r u)) 0 0) (h : fX6_one_147 Zany Zone N S v1 v2 Q) : St x 0 0 (mW g a S) [(0, .ref (a 50)), (1, .int v1), (2, .int v2)] [] 147 := by
  unfold fX6_one_147 at h
  refine r_iconst (v := 0) C dX6_one_147 (by decide) ?_
  exact wfX6_one_148 hF C hZ hRZany hzZany hZany hRZone hzZone hZone h
def fX6_one_130 (Zany : RS → (Int64 → RS → Prop) → Prop) (Zone : RS → (Int64 → RS → Prop) → Prop) (N : Nat) (S : RS) (v1 : Int32) (k0 : Int32) (Q : Int64 → RS → Prop) : Prop :=
  ((v1 < 120 → (fX6_one_147 Zany Zone N S v1 k0 Q)) ∧ (¬ v1 < 120 → ((122 < v1 → (fX6_one_147 Zany Zone N S v1 k0 Q)) ∧ (¬ 122 < v1 → (fX6_one_148 Zany Zone N S v1 k0 1 Q)))))
set_option maxRecDepth 100000 in
set_option maxHeartbeats 4000000 in
theorem wfX6_one_130 {x : Nx} {g : Gx} {W0 : va_W} {a : Nat → Nat} {S : RS} {Zany : RS → (Int64 → RS → Prop) → Prop} {Zone : RS → (Int64 → RS → Prop) → Prop} {N : Nat} {v1 : Int32} {k0 : Int32} {Q : Int64 → RS → Prop} {rm : Room} (hF : 2 ≤ rm.frames ∧ 42 ≤ rm.locals ∧ rm.cells = 0 ∧ rm.slots = 0) (C : Cx x g cX6_one RX6 wsX6_one rm yX6_one (some .long) 4) (hZ : Zq x g W0 (fun u : RS => mW g a u) (qL (fun (r : Int64) (u : RS) => Q r u)) 0 0) {rmZany : Room} (hRZany : rmZany.frames + 1 ≤ rm.frames ∧ 8 + (3 + 11) + rmZany.locals ≤ rm.locals) (hzZany : rmZany.cells = 0 ∧ rmZany.slots = 0) (hZany : ∀ (S : RS)  (Q : Int64 → RS → Prop), Zany S Q → MetG (xl x) g yX6_any wsX6_any rmZany [.ref (a 50)] (mW g a S) (fun u : RS => mW g a u) (qL (fun (r : Int64) (u : RS) => Q r u)) 0 0) {rmZone : Room} (hRZone : rmZone.frames + 1 ≤ rm.frames ∧ 8 + (4 + 11) + rmZone.locals ≤ rm.locals) (hzZone : rmZone.cells = 0 ∧ rmZone.slots = 0) (hZone : ∀ (S : RS)  (Q : Int64 → RS → Prop), Zone S Q → MetG (xl x) g yX6_one wsX6_one rmZone [.ref (a 50)] (mW g a S) (fun u : RS => mW g a u) (qL (fun (r : Int64) (u : RS) => Q r u)) 0 0) (h : fX6_one_130 Zany Zone N S v1 k0 Q) : St x 0 0 (mW g a S) [(0, .ref (a 50)), (1, .int v1)] [.int k0] 130 := by
  unfold fX6_one_130 at h
  refine r_istore_n (lv' := [(0, .ref (a 50)), (1, .int v1), (2, .int k0)]) C dX6_one_130 [some 0, some 1, none] (by decide) rfl rfl ?_
  refine r_iload_n C dX6_one_131 rfl ?_
  refine r_bipush (v := 120) C dX6_one_132 (by decide) ?_
  refine r_icmp_lt (tgt := 147) C dX6_one_134 (by decide) (fun c6 => ?_) (fun c6 => ?_)
  · have h := h.1 c6
    exact wfX6_one_147 hF C hZ hRZany hzZany hZany hRZone hzZone hZone h
  · have h := h.2 c6
    refine r_iload_n C dX6_one_137 rfl ?_
    refine r_bipush (v := 122) C dX6_one_138 (by decide) ?_
    refine r_icmp_gt (tgt := 147) C dX6_one_140 (by decide) (fun c19 => ?_) (fun c19 => ?_)
    · have h := h.1 c19
      exact wfX6_one_147 hF C hZ hRZany hzZany hZany hRZone hzZone hZone h
    · have h := h.2 c19
      refine r_iconst (v := 1) C dX6_one_143 (by decide) ?_
      refine r_goto (tgt := 148) C dX6_one_144 (by decide) ?_
      exact wfX6_one_148 hF C hZ hRZany hzZany hZany hRZone hzZone hZone h
def fX6_one_129 (Zany : RS → (Int64 → RS → Prop) → Prop) (Zone : RS → (Int64 → RS → Prop) → Prop) (N : Nat) (S : RS) (v1 : Int32) (Q : Int64 → RS → Prop) : Prop :=
  (fX6_one_130 Zany Zone N S v1 0 Q)
set_option maxRecDepth 100000 in
set_option maxHeartbeats 4000000 in
theorem wfX6_one_129 {x : Nx} {g : Gx} {W0 : va_W} {a : Nat → Nat} {S : RS} {Zany : RS → (Int64 → RS → Prop) → Prop} {Zone : RS → (Int64 → RS → Prop) → Prop} {N : Nat} {v1 : Int32} {Q : Int64 → RS → Prop} {rm : Room} (hF : 2 ≤ rm.frames ∧ 42 ≤ rm.locals ∧ rm.cells = 0 ∧ rm.slots = 0) (C : Cx x g cX6_one RX6 wsX6_one rm yX6_one (some .long) 4) (hZ : Zq x g W0 (fun u : RS => mW g a u) (qL (fun (r : Int64) (u : RS) => Q r u)) 0 0) {rmZany : Room} (hRZany : rmZany.frames + 1 ≤ rm.frames ∧ 8 + (3 + 11) + rmZany.locals ≤ rm.locals) (hzZany : rmZany.cells = 0 ∧ rmZany.slots = 0) (hZany : ∀ (S : RS)  (Q : Int64 → RS → Prop), Zany S Q → MetG (xl x) g yX6_any wsX6_any rmZany [.ref (a 50)] (mW g a S) (fun u : RS => mW g a u) (qL (fun (r : Int64) (u : RS) => Q r u)) 0 0) {rmZone : Room} (hRZone : rmZone.frames + 1 ≤ rm.frames ∧ 8 + (4 + 11) + rmZone.locals ≤ rm.locals) (hzZone : rmZone.cells = 0 ∧ rmZone.slots = 0) (hZone : ∀ (S : RS)  (Q : Int64 → RS → Prop), Zone S Q → MetG (xl x) g yX6_one wsX6_one rmZone [.ref (a 50)] (mW g a S) (fun u : RS => mW g a u) (qL (fun (r : Int64) (u : RS) => Q r u)) 0 0) (h : fX6_one_129 Zany Zone N S v1 Q) : St x 0 0 (mW g a S) [(0, .ref (a 50)), (1, .int v1)] [] 129 := by
  unfold fX6_one_129 at h
  refine r_iconst (v := 0) C dX6_one_129 (by decide) ?_
  exact wfX6_one_130 hF C hZ hRZany hzZany hZany hRZone hzZone hZone h
def fX6_one_91 (Zany : RS → (Int64 → RS → Prop) → Prop) (Zone : RS → (Int64 → RS → Prop) → Prop) (N : Nat) (S : RS) (v2 : Int64) (Q : Int64 → RS → Prop) : Prop :=
  (∀ S27 : RS, S27 = sI S 35 ((S.1 35) + (1 : Int32)) → (∀ S28 : RS, S28 = sI S27 36 ((S27.1 36) - (1 : Int32)) → Q v2 S28))
set_option maxRecDepth 100000 in
set_option maxHeartbeats 4000000 in
theorem wfX6_one_91 {x : Nx} {g : Gx} {W0 : va_W} {a : Nat → Nat} {S : RS} {Zany : RS → (Int64 → RS → Prop) → Prop} {Zone : RS → (Int64 → RS → Prop) → Prop} {N : Nat} {v2 : Int64} {Q : Int64 → RS → Prop} {rm : Room} (hF : 2 ≤ rm.frames ∧ 42 ≤ rm.locals ∧ rm.cells = 0 ∧ rm.slots = 0) (C : Cx x g cX6_one RX6 wsX6_one rm yX6_one (some .long) 4) (hZ : Zq x g W0 (fun u : RS => mW g a u) (qL (fun (r : Int64) (u : RS) => Q r u)) 0 0) {rmZany : Room} (hRZany : rmZany.frames + 1 ≤ rm.frames ∧ 8 + (3 + 11) + rmZany.locals ≤ rm.locals) (hzZany : rmZany.cells = 0 ∧ rmZany.slots = 0) (hZany : ∀ (S : RS)  (Q : Int64 → RS → Prop), Zany S Q → MetG (xl x) g yX6_any wsX6_any rmZany [.ref (a 50)] (mW g a S) (fun u : RS => mW g a u) (qL (fun (r : Int64) (u : RS) => Q r u)) 0 0) {rmZone : Room} (hRZone : rmZone.frames + 1 ≤ rm.frames ∧ 8 + (4 + 11) + rmZone.locals ≤ rm.locals) (hzZone : rmZone.cells = 0 ∧ rmZone.slots = 0) (hZone : ∀ (S : RS)  (Q : Int64 → RS → Prop), Zone S Q → MetG (xl x) g yX6_one wsX6_one rmZone [.ref (a 50)] (mW g a S) (fun u : RS => mW g a u) (qL (fun (r : Int64) (u : RS) => Q r u)) 0 0) (h : fX6_one_91 Zany Zone N S v2 Q) : St x 0 0 (mW g a S) [(0, .ref (a 50)), (2, .long v2)] [] 91 := by
  unfold fX6_one_91 at h
  refine r_aload_n C dX6_one_91 rfl ?_
  refine r_dup C dX6_one_92 rfl ?_
  refine r_get (cn := RX6) (T := TX6) (N := 43) (ci := 6) C uwX6_one_6 0 rfl rfl 35 (by decide) kwX6_one_2 (v := .int (S.1 35)) rfl dX6_one_93 ?_
  refine r_iconst (v := 1) C dX6_one_96 (by decide) ?_
  refine r_iadd C dX6_one_97 ?_
  obtain ⟨S27, hS27⟩ : ∃ z : RS, z = sI S 35 ((S.1 35) + (1 : Int32)) := ⟨_, rfl⟩
  have h := h S27 hS27
  refine r_put (cn := RX6) (T := TX6) (N := 43) (ci := 6) (ws' := mW g a S27) C uwX6_one_6 tyX6 tyX6_ok nmX6 0 rfl rfl 35 (by decide) kwX6_one_2 rfl rfl rfl (Nat.le_of_ble_eq_true rfl) dX6_one_98 (by rw [hS27]; rfl) ?_
  refine r_aload_n C dX6_one_101 rfl ?_
  refine r_dup C dX6_one_102 rfl ?_
  refine r_get (cn := RX6) (T := TX6) (N := 43) (ci := 6) C uwX6_one_6 0 rfl rfl 36 (by decide) kwX6_one_4 (v := .int (S27.1 36)) rfl dX6_one_103 ?_
  refine r_iconst (v := 1) C dX6_one_106 (by decide) ?_
  refine r_isub C dX6_one_107 ?_
  obtain ⟨S28, hS28⟩ : ∃ z : RS, z = sI S27 36 ((S27.1 36) - (1 : Int32)) := ⟨_, rfl⟩
  have h := h S28 hS28
  refine r_put (cn := RX6) (T := TX6) (N := 43) (ci := 6) (ws' := mW g a S28) C uwX6_one_6 tyX6 tyX6_ok nmX6 0 rfl rfl 36 (by decide) kwX6_one_4 rfl rfl rfl (Nat.le_of_ble_eq_true rfl) dX6_one_108 (by rw [hS28]; rfl) ?_
  refine r_lload_n C dX6_one_111 rfl ?_
  exact r_lret C hZ (u := S28) h rfl dX6_one_112
def bX6_one (Zany : RS → (Int64 → RS → Prop) → Prop) (Zone : RS → (Int64 → RS → Prop) → Prop) (N : Nat) (S : RS) (Q : Int64 → RS → Prop) : Prop :=
  (((S.1 37) < 0 → (fX6_byteAt N S (fun r2 => ((¬ r2 = 126 → ((¬ r2 = 40 → ((r2 < 97 → (fX6_one_129 Zany Zone N S r2 Q)) ∧ (¬ r2 < 97 → ((99 < r2 → (fX6_one_129 Zany Zone N S r2 Q)) ∧ (¬ 99 < r2 → (fX6_one_130 Zany Zone N S r2 1 Q)))))) ∧ (r2 = 40 → (fX6_opens N S (fun r21 S22 => ((¬ r21 = 0 → (Zany S22 (fun r24 S25 => ((0 ≤ (S25.1 37) → (fX6_one_91 Zany Zone N S25 r24 Q)) ∧ (¬ 0 ≤ (S25.1 37) → (fX6_byteAt N S25 (fun r29 => ((r29 = 41 → (fX6_one_91 Zany Zone N S25 r24 Q)) ∧ (¬ r29 = 41 → (fX6_wrong N S25 (fun r31 S32 => Q r31 S32))))))))))) ∧ (r21 = 0 → Q 0 S22))))))) ∧ (r2 = 126 → (fX6_opens N S (fun r33 S34 => ((¬ r33 = 0 → (Zone S34 (fun r36 S37 => (∀ x38 : Int64, x38 = r36 ^^^ (-1 : Int64) → (∀ S39 : RS, S39 = sI S37 36 ((S37.1 36) - (1 : Int32)) → Q x38 S39))))) ∧ (r33 = 0 → Q 0 S34))))))))) ∧ (¬ (S.1 37) < 0 → Q 0 S))
set_option maxRecDepth 100000 in
set_option maxHeartbeats 4000000 in
theorem tbX6_one (l : Launch) (g : Gx) (a : Nat → Nat) (S : RS) {Zany : RS → (Int64 → RS → Prop) → Prop} {Zone : RS → (Int64 → RS → Prop) → Prop} (N : Nat) (Q : Int64 → RS → Prop) {rm : Room} (hF : 2 ≤ rm.frames ∧ 42 ≤ rm.locals ∧ rm.cells = 0 ∧ rm.slots = 0) {rmZany : Room} (hRZany : rmZany.frames + 1 ≤ rm.frames ∧ 8 + (3 + 11) + rmZany.locals ≤ rm.locals) (hzZany : rmZany.cells = 0 ∧ rmZany.slots = 0) (hZany : ∀ (S : RS)  (Q : Int64 → RS → Prop), Zany S Q → MetG l g yX6_any wsX6_any rmZany [.ref (a 50)] (mW g a S) (fun u : RS => mW g a u) (qL (fun (r : Int64) (u : RS) => Q r u)) 0 0) {rmZone : Room} (hRZone : rmZone.frames + 1 ≤ rm.frames ∧ 8 + (4 + 11) + rmZone.locals ≤ rm.locals) (hzZone : rmZone.cells = 0 ∧ rmZone.slots = 0) (hZone : ∀ (S : RS)  (Q : Int64 → RS → Prop), Zone S Q → MetG l g yX6_one wsX6_one rmZone [.ref (a 50)] (mW g a S) (fun u : RS => mW g a u) (qL (fun (r : Int64) (u : RS) => Q r u)) 0 0) (h : bX6_one Zany Zone N S Q) : MetG l g yX6_one wsX6_one rm [.ref (a 50)] (mW g a S) (fun u : RS => mW g a u) (qL (fun (r : Int64) (u : RS) => Q r u)) 0 0 := by
  refine met_of (cc := cX6_one) (own := RX6) (nL := 4) (ret := (some .long)) (lv := [(0, .ref (a 50))]) (by decide) rfl rfl (Nat.le_of_ble_eq_true rfl) rfl ?_
  intro x C hl hZ
  subst hl
  unfold bX6_one at h
  refine r_aload_n C dX6_one_0 rfl ?_
  refine r_get (cn := RX6) (T := TX6) (N := 43) (ci := 6) C uwX6_one_6 0 rfl rfl 37 (by decide) kwX6_one_0 (v := .int (S.1 37)) rfl dX6_one_1 ?_
  refine r_if_lt (tgt := 9) C dX6_one_4 (by decide) (fun c1 => ?_) (fun c1 => ?_)
  · have h := h.1 c1
    refine r_aload_n C dX6_one_9 rfl ?_
    refine callR_I C (run_V (As := []) (rest := []) (ci := 6) C hZ.2.2 (tX6_byteAt _ g a S N _ h) gX6_one_X6_byteAt rfl dsX6_byteAt rfl rfl ⟨Nat.le_trans (Nat.le_of_ble_eq_true rfl) hF.1, Nat.le_trans (Nat.le_of_ble_eq_true rfl) hF.2.1⟩ rfl (List.mem_of_getElem? (i := 0) rfl) rfl (Nat.le_of_ble_eq_true rfl) dX6_one_10 ⟨Nat.zero_le _, Nat.zero_le _⟩) (List.Sublist.refl _) (fun _ => rfl) (fun r2 _ h => ?_)
    refine r_istore_n (lv' := [(0, .ref (a 50)), (1, .int r2)]) C dX6_one_13 [some 0, none] (by decide) rfl rfl ?_
    refine r_iload_n C dX6_one_14 rfl ?_
    refine r_bipush (v := 126) C dX6_one_15 (by decide) ?_
    refine r_icmp_ne (tgt := 50) C dX6_one_17 (by decide) (fun c3 => ?_) (fun c3 => ?_)
    · have h := h.1 c3
      refine r_iload_n C dX6_one_50 rfl ?_
      refine r_bipush (v := 40) C dX6_one_51 (by decide) ?_
      refine r_icmp_ne (tgt := 113) C dX6_one_53 (by decide) (fun c4 => ?_) (fun c4 => ?_)
      · have h := h.1 c4
        refine r_iload_n C dX6_one_113 rfl ?_
        refine r_bipush (v := 97) C dX6_one_114 (by decide) ?_
        refine r_icmp_lt (tgt := 129) C dX6_one_116 (by decide) (fun c5 => ?_) (fun c5 => ?_)
        · have h := h.1 c5
          exact wfX6_one_129 hF C hZ hRZany hzZany hZany hRZone hzZone hZone h
        · have h := h.2 c5
          refine r_iload_n C dX6_one_119 rfl ?_
          refine r_bipush (v := 99) C dX6_one_120 (by decide) ?_
          refine r_icmp_gt (tgt := 129) C dX6_one_122 (by decide) (fun c20 => ?_) (fun c20 => ?_)
          · have h := h.1 c20
            exact wfX6_one_129 hF C hZ hRZany hzZany hZany hRZone hzZone hZone h
          · have h := h.2 c20
            refine r_iconst (v := 1) C dX6_one_125 (by decide) ?_
            refine r_goto (tgt := 130) C dX6_one_126 (by decide) ?_
            exact wfX6_one_130 hF C hZ hRZany hzZany hZany hRZone hzZone hZone h
      · have h := h.2 c4
        refine r_aload_n C dX6_one_56 rfl ?_
        refine callW_I C (run_V (As := []) (rest := []) (ci := 6) C hZ.2.2 (tX6_opens _ g a S N _ h) gX6_one_X6_opens rfl dsX6_opens rfl rfl ⟨Nat.le_trans (Nat.le_of_ble_eq_true rfl) hF.1, Nat.le_trans (Nat.le_of_ble_eq_true rfl) hF.2.1⟩ rfl (List.mem_of_getElem? (i := 0) rfl) rfl (Nat.le_of_ble_eq_true rfl) dX6_one_57 ⟨Nat.zero_le _, Nat.zero_le _⟩) (fun r21 S22 h => ?_)
        show St x 0 0 (mW g a S22) _ _ 60
        refine r_if_ne (tgt := 65) C dX6_one_60 (by decide) (fun c23 => ?_) (fun c23 => ?_)
        · have h := h.1 c23
          refine r_aload_n C dX6_one_65 rfl ?_
          refine callW_L C (run_V (As := []) (rest := []) (ci := 6) C hZ.2.2 (hZany S22 _ h) gX6_one_X6_any rfl dsX6_any hzZany.1 hzZany.2 hRZany rfl (List.mem_of_getElem? (i := 0) rfl) rfl (Nat.le_of_ble_eq_true rfl) dX6_one_66 ⟨Nat.zero_le _, Nat.zero_le _⟩) (fun r24 S25 h => ?_)
          show St x 0 0 (mW g a S25) _ _ 69
          refine r_lstore_n (lv' := [(0, .ref (a 50)), (2, .long r24)]) C dX6_one_69 [some 0, none] (by decide) rfl rfl ?_
          refine r_aload_n C dX6_one_70 rfl ?_
          refine r_get (cn := RX6) (T := TX6) (N := 43) (ci := 6) C uwX6_one_6 0 rfl rfl 37 (by decide) kwX6_one_0 (v := .int (S25.1 37)) rfl dX6_one_71 ?_
          refine r_if_ge (tgt := 91) C dX6_one_74 (by decide) (fun c26 => ?_) (fun c26 => ?_)
          · have h := h.1 c26
            exact wfX6_one_91 hF C hZ hRZany hzZany hZany hRZone hzZone hZone h
          · have h := h.2 c26
            refine r_aload_n C dX6_one_77 rfl ?_
            refine callR_I C (run_V (As := []) (rest := []) (ci := 6) C hZ.2.2 (tX6_byteAt _ g a S25 N _ h) gX6_one_X6_byteAt rfl dsX6_byteAt rfl rfl ⟨Nat.le_trans (Nat.le_of_ble_eq_true rfl) hF.1, Nat.le_trans (Nat.le_of_ble_eq_true rfl) hF.2.1⟩ rfl (List.mem_of_getElem? (i := 0) rfl) rfl (Nat.le_of_ble_eq_true rfl) dX6_one_78 ⟨Nat.zero_le _, Nat.zero_le _⟩) (List.Sublist.refl _) (fun _ => rfl) (fun r29 _ h => ?_)
            refine r_bipush (v := 41) C dX6_one_81 (by decide) ?_
            refine r_icmp_eq (tgt := 91) C dX6_one_83 (by decide) (fun c30 => ?_) (fun c30 => ?_)
            · have h := h.1 c30
              exact wfX6_one_91 hF C hZ hRZany hzZany hZany hRZone hzZone hZone h
            · have h := h.2 c30
              refine r_aload_n C dX6_one_86 rfl ?_
              refine callW_L C (run_V (As := []) (rest := []) (ci := 6) C hZ.2.2 (tX6_wrong _ g a S25 N _ h) gX6_one_X6_wrong rfl dsX6_wrong rfl rfl ⟨Nat.le_trans (Nat.le_of_ble_eq_true rfl) hF.1, Nat.le_trans (Nat.le_of_ble_eq_true rfl) hF.2.1⟩ rfl (List.mem_of_getElem? (i := 0) rfl) rfl (Nat.le_of_ble_eq_true rfl) dX6_one_87 ⟨Nat.zero_le _, Nat.zero_le _⟩) (fun r31 S32 h => ?_)
              show St x 0 0 (mW g a S32) _ _ 90
              exact r_lret C hZ (u := S32) h rfl dX6_one_90
        · have h := h.2 c23
          refine r_lconst (v := 0) C dX6_one_63 (by decide) ?_
          exact r_lret C hZ (u := S22) h rfl dX6_one_64
    · have h := h.2 c3
      refine r_aload_n C dX6_one_20 rfl ?_
      refine callW_I C (run_V (As := []) (rest := []) (ci := 6) C hZ.2.2 (tX6_opens _ g a S N _ h) gX6_one_X6_opens rfl dsX6_opens rfl rfl ⟨Nat.le_trans (Nat.le_of_ble_eq_true rfl) hF.1, Nat.le_trans (Nat.le_of_ble_eq_true rfl) hF.2.1⟩ rfl (List.mem_of_getElem? (i := 0) rfl) rfl (Nat.le_of_ble_eq_true rfl) dX6_one_21 ⟨Nat.zero_le _, Nat.zero_le _⟩) (fun r33 S34 h => ?_)
      show St x 0 0 (mW g a S34) _ _ 24
      refine r_if_ne (tgt := 29) C dX6_one_24 (by decide) (fun c35 => ?_) (fun c35 => ?_)
      · have h := h.1 c35
        refine r_aload_n C dX6_one_29 rfl ?_
        refine callW_L C (run_V (As := []) (rest := []) (ci := 6) C hZ.2.2 (hZone S34 _ h) gX6_one_X6_one rfl dsX6_one hzZone.1 hzZone.2 hRZone rfl (List.mem_of_getElem? (i := 0) rfl) rfl (Nat.le_of_ble_eq_true rfl) dX6_one_30 ⟨Nat.zero_le _, Nat.zero_le _⟩) (fun r36 S37 h => ?_)
        show St x 0 0 (mW g a S37) _ _ 33
        refine r_ldc2 C kwX6_one_3 dX6_one_33 ?_
        refine r_lxor C dX6_one_36 ?_
        refine r_topl (fun x38 ex38 => ?_)
        have h := h x38 ex38
        refine r_lstore_n (lv' := [(0, .ref (a 50)), (2, .long x38)]) C dX6_one_37 [some 0, none] (by decide) rfl rfl ?_
        refine r_aload_n C dX6_one_38 rfl ?_
        refine r_dup C dX6_one_39 rfl ?_
        refine r_get (cn := RX6) (T := TX6) (N := 43) (ci := 6) C uwX6_one_6 0 rfl rfl 36 (by decide) kwX6_one_4 (v := .int (S37.1 36)) rfl dX6_one_40 ?_
        refine r_iconst (v := 1) C dX6_one_43 (by decide) ?_
        refine r_isub C dX6_one_44 ?_
        obtain ⟨S39, hS39⟩ : ∃ z : RS, z = sI S37 36 ((S37.1 36) - (1 : Int32)) := ⟨_, rfl⟩
        have h := h S39 hS39
        refine r_put (cn := RX6) (T := TX6) (N := 43) (ci := 6) (ws' := mW g a S39) C uwX6_one_6 tyX6 tyX6_ok nmX6 0 rfl rfl 36 (by decide) kwX6_one_4 rfl rfl rfl (Nat.le_of_ble_eq_true rfl) dX6_one_45 (by rw [hS39]; rfl) ?_
        refine r_lload_n C dX6_one_48 rfl ?_
        exact r_lret C hZ (u := S39) h rfl dX6_one_49
      · have h := h.2 c35
        refine r_lconst (v := 0) C dX6_one_27 (by decide) ?_
        exact r_lret C hZ (u := S34) h rfl dX6_one_28
  · have h := h.2 c1
    refine r_lconst (v := 0) C dX6_one_7 (by decide) ?_
    exact r_lret C hZ (u := S) h rfl dX6_one_8
def gX6 (N : Nat) : Nat → Nat → RS → (Int64 → RS → Prop) → Prop
  | 0, _, _, _ => False
  | dn + 1, 0, S, Q => bX6_any (gX6 N dn 1) N S  Q
  | dn + 1, 1, S, Q => bX6_all (gX6 N dn 2) N S  Q
  | dn + 1, _ + 2, S, Q => bX6_one (gX6 N dn 0) (gX6 N dn 2) N S  Q
set_option maxRecDepth 100000 in
set_option maxHeartbeats 4000000 in
theorem gX6_met (l : Launch) (g : Gx) (a : Nat → Nat) (N : Nat) : ∀ dn : Nat, (∀ (S : RS) (Q : Int64 → RS → Prop), gX6 N dn 0 S Q → MetG l g yX6_any wsX6_any (rmR dn) [.ref (a 50)] (mW g a S) (fun u : RS => mW g a u) (qL (fun (r : Int64) (u : RS) => Q r u)) 0 0) ∧ (∀ (S : RS) (Q : Int64 → RS → Prop), gX6 N dn 1 S Q → MetG l g yX6_all wsX6_all (rmR dn) [.ref (a 50)] (mW g a S) (fun u : RS => mW g a u) (qL (fun (r : Int64) (u : RS) => Q r u)) 0 0) ∧ (∀ (S : RS) (Q : Int64 → RS → Prop), gX6 N dn 2 S Q → MetG l g yX6_one wsX6_one (rmR dn) [.ref (a 50)] (mW g a S) (fun u : RS => mW g a u) (qL (fun (r : Int64) (u : RS) => Q r u)) 0 0) := by
  intro dn
  induction dn with
  | zero => exact ⟨fun _ _ h => False.elim h, fun _ _ h => False.elim h, fun _ _ h => False.elim h⟩
  | succ dn ih => exact ⟨fun S Q h => tbX6_any l g a S N Q (Zall := (gX6 N dn 1)) (rmR_F (dn + 1) 1 20 (by decide) (by decide)) (rmR_ok dn 3 (by decide)) ⟨rfl, rfl⟩ (fun S Q h => ih.2.1 S Q h) h,
      fun S Q h => tbX6_all l g a S N Q (Zone := (gX6 N dn 2)) (rmR_F (dn + 1) 1 20 (by decide) (by decide)) (rmR_ok dn 4 (by decide)) ⟨rfl, rfl⟩ (fun S Q h => ih.2.2 S Q h) h,
      fun S Q h => tbX6_one l g a S N Q (Zany := (gX6 N dn 0)) (Zone := (gX6 N dn 2)) (rmR_F (dn + 1) 2 42 (by decide) (by decide)) (rmR_ok dn 3 (by decide)) ⟨rfl, rfl⟩ (fun S Q h => ih.1 S Q h) (rmR_ok dn 4 (by decide)) ⟨rfl, rfl⟩ (fun S Q h => ih.2.2 S Q h) h⟩
def fX6_any (N : Nat) (S : RS) (Q : Int64 → RS → Prop) : Prop := gX6 N 40 0 S Q
def rmX6_any : Room := rmR 40
theorem tX6_any (l : Launch) (g : Gx) (a : Nat → Nat) (S : RS) (N : Nat) (Q : Int64 → RS → Prop) (h : fX6_any N S Q) : MetG l g yX6_any wsX6_any rmX6_any [.ref (a 50)] (mW g a S) (fun u : RS => mW g a u) (qL (fun (r : Int64) (u : RS) => Q r u)) 0 0 := (gX6_met l g a N 40).1 S Q h
def fX6_all (N : Nat) (S : RS) (Q : Int64 → RS → Prop) : Prop := gX6 N 40 1 S Q
def rmX6_all : Room := rmR 40
theorem tX6_all (l : Launch) (g : Gx) (a : Nat → Nat) (S : RS) (N : Nat) (Q : Int64 → RS → Prop) (h : fX6_all N S Q) : MetG l g yX6_all wsX6_all rmX6_all [.ref (a 50)] (mW g a S) (fun u : RS => mW g a u) (qL (fun (r : Int64) (u : RS) => Q r u)) 0 0 := (gX6_met l g a N 40).2.1 S Q h
def fX6_one (N : Nat) (S : RS) (Q : Int64 → RS → Prop) : Prop := gX6 N 40 2 S Q
def rmX6_one : Room := rmR 40
theorem tX6_one (l : Launch) (g : Gx) (a : Nat → Nat) (S : RS) (N : Nat) (Q : Int64 → RS → Prop) (h : fX6_one N S Q) : MetG l g yX6_one wsX6_one rmX6_one [.ref (a 50)] (mW g a S) (fun u : RS => mW g a u) (qL (fun (r : Int64) (u : RS) => Q r u)) 0 0 := (gX6_met l g a N 40).2.2 S Q h
def rmX6_want : Room := { frames := 51, cells := 0, slots := 0, locals := 2022 }
theorem kwX6_want_0 : Cond.fieldLink RX6 87 "WantsBenchModel" "wants" "I" ∈ wsX6_want := by decide +kernel
theorem uwX6_want_6 : ∀ w ∈ wsX60, w ∈ wsX6_want := by decide +kernel
theorem kwX6_want_2 : Cond.fieldLink RX6 101 "WantsBenchModel" "at" "I" ∈ wsX6_want := by decide +kernel
theorem kwX6_want_3 : Cond.fieldLink RX6 118 "WantsBenchModel" "open" "I" ∈ wsX6_want := by decide +kernel
theorem kwX6_want_4 : Cond.fieldLink RX6 104 "WantsBenchModel" "fault" "I" ∈ wsX6_want := by decide +kernel
theorem kwX6_want_5 : Cond.fieldLink RX6 23 "WantsBenchModel" "second" "[J" ∈ wsX6_want := by decide +kernel
theorem kwX6_want_6 : Cond.fieldLink RX6 16 "WantsBenchModel" "number" "[I" ∈ wsX6_want := by decide +kernel
theorem kwX6_want_7 : Cond.fieldLink RX6 19 "WantsBenchModel" "first" "[J" ∈ wsX6_want := by decide +kernel
theorem kwX6_want_8 : Cond.fieldLink RX6 98 "WantsBenchModel" "tapeMany" "I" ∈ wsX6_want := by decide +kernel
theorem kwX6_want_9 : Cond.fieldLink RX6 26 "WantsBenchModel" "owner" "[I" ∈ wsX6_want := by decide +kernel
theorem kwX6_want_10 : Cond.fieldLink RX6 29 "WantsBenchModel" "worth" "[I" ∈ wsX6_want := by decide +kernel
theorem kwX6_want_11 : Cond.fieldLink RX6 32 "WantsBenchModel" "ease" "[I" ∈ wsX6_want := by decide +kernel
theorem kwX6_want_12 : Cond.fieldLink RX6 35 "WantsBenchModel" "read" "[I" ∈ wsX6_want := by decide +kernel
theorem kwX6_want_13 : Cond.fieldLink RX6 91 "WantsBenchModel" "today" "I" ∈ wsX6_want := by decide +kernel
theorem kwX6_want_14 : Cond.fieldLink RX6 38 "WantsBenchModel" "givenUp" "[I" ∈ wsX6_want := by decide +kernel
theorem kwX6_want_15 : Cond.fieldLink RX6 41 "WantsBenchModel" "bytes" "[I" ∈ wsX6_want := by decide +kernel
theorem kwX6_want_16 : Cond.fieldLink RX6 13 "WantsBenchModel" "sort" "[I" ∈ wsX6_want := by decide +kernel
def fX6_want_299 (N : Nat) (S : RS) (v1 : Int32) (v2 : Int32) (v3 : Int32) (v4 : Int32) (Q : Int32 → RS → Prop) : Prop :=
  (∀ x28 : Int32, x28 = S.1 2 → (∀ S29 : RS, S29 = sI S 2 0 → (((S29.1 37) < 0 → (vp_in v4 20 ∧ (∀ S32 : RS, S32 = sA S29 7 (upd (S29.2.1 7) v4.toNatClampNeg v1) → (vp_in v4 20 ∧ (∀ S34 : RS, S34 = sA S32 8 (upd (S32.2.1 8) v4.toNatClampNeg v2) → (vp_in v4 20 ∧ (∀ S36 : RS, S36 = sA S34 9 (upd (S34.2.1 9) v4.toNatClampNeg v3) → (vp_in v4 20 ∧ (∀ S38 : RS, S38 = sA S36 10 (upd (S36.2.1 10) v4.toNatClampNeg (S36.1 0)) → (vp_in v4 20 ∧ (∀ S40 : RS, S40 = sA S38 11 (upd (S38.2.1 11) v4.toNatClampNeg (-1)) → (vp_in v4 20 ∧ (∀ S42 : RS, S42 = sA S40 12 (upd (S40.2.1 12) v4.toNatClampNeg x28) → (∀ S43 : RS, S43 = sI S42 13 ((S42.1 13) + (1 : Int32)) → Q v4 S43)))))))))))))) ∧ (¬ (S29.1 37) < 0 → Q ((-100 : Int32) - (S29.1 37)) S29))))
set_option maxRecDepth 100000 in
set_option maxHeartbeats 4000000 in
theorem wfX6_want_299 {x : Nx} {g : Gx} {W0 : va_W} {a : Nat → Nat} {S : RS} {N : Nat} {v1 : Int32} {v2 : Int32} {v3 : Int32} {v4 : Int32} {Q : Int32 → RS → Prop} (C : Cx x g cX6_want RX6 wsX6_want rmX6_want yX6_want (some .int) 8) (hZ : Zq x g W0 (fun u : RS => mW g a u) (qI (fun (r : Int32) (u : RS) => Q r u)) 0 0) (h : fX6_want_299 N S v1 v2 v3 v4 Q) : St x 0 0 (mW g a S) [(0, .ref (a 50)), (1, .int v1), (2, .int v2), (3, .int v3), (4, .int v4)] [] 299 := by
  unfold fX6_want_299 at h
  refine r_aload_n C dX6_want_299 rfl ?_
  refine r_get (cn := RX6) (T := TX6) (N := 43) (ci := 6) C uwX6_want_6 0 rfl rfl 2 (by decide) kwX6_want_8 (v := .int (S.1 2)) rfl dX6_want_300 ?_
  refine r_topi (fun x28 ex28 => ?_)
  have h := h x28 ex28
  refine r_istore (lv' := [(0, .ref (a 50)), (1, .int v1), (2, .int v2), (3, .int v3), (4, .int v4), (5, .int x28)]) C dX6_want_303 [some 0, some 1, some 2, some 3, some 4, none] (by decide) rfl rfl ?_
  refine r_aload_n C dX6_want_305 rfl ?_
  refine r_iconst (v := 0) C dX6_want_306 (by decide) ?_
  obtain ⟨S29, hS29⟩ : ∃ z : RS, z = sI S 2 0 := ⟨_, rfl⟩
  have h := h S29 hS29
  refine r_put (cn := RX6) (T := TX6) (N := 43) (ci := 6) (ws' := mW g a S29) C uwX6_want_6 tyX6 tyX6_ok nmX6 0 rfl rfl 2 (by decide) kwX6_want_8 rfl rfl rfl (Nat.le_of_ble_eq_true rfl) dX6_want_307 (by rw [hS29]; rfl) ?_
  refine r_aload_n C dX6_want_310 rfl ?_
  refine r_get (cn := RX6) (T := TX6) (N := 43) (ci := 6) C uwX6_want_6 0 rfl rfl 37 (by decide) kwX6_want_4 (v := .int (S29.1 37)) rfl dX6_want_311 ?_
  refine r_if_lt (tgt := 325) C dX6_want_314 (by decide) (fun c30 => ?_) (fun c30 => ?_)
  · have h := h.1 c30
    refine r_aload_n C dX6_want_325 rfl ?_
    refine r_get (cn := RX6) (T := TX6) (N := 43) (ci := 6) C uwX6_want_6 0 rfl rfl 7 (by decide) kwX6_want_9 (v := .ref (a 7)) rfl dX6_want_326 ?_
    refine r_iload C dX6_want_329 rfl ?_
    refine r_iload_n C dX6_want_331 rfl ?_
    obtain ⟨hi31, h⟩ := h
    obtain ⟨S32, hS32⟩ : ∃ z : RS, z = sA S29 7 (upd (S29.2.1 7) v4.toNatClampNeg v1) := ⟨_, rfl⟩
    have h := h S32 hS32
    refine r_iast (ws' := mW g a S32) C 6 rfl hi31 dX6_want_332 (by rw [hS32]; rfl) ?_
    refine r_aload_n C dX6_want_333 rfl ?_
    refine r_get (cn := RX6) (T := TX6) (N := 43) (ci := 6) C uwX6_want_6 0 rfl rfl 8 (by decide) kwX6_want_10 (v := .ref (a 8)) rfl dX6_want_334 ?_
    refine r_iload C dX6_want_337 rfl ?_
    refine r_iload_n C dX6_want_339 rfl ?_
    obtain ⟨hi33, h⟩ := h
    obtain ⟨S34, hS34⟩ : ∃ z : RS, z = sA S32 8 (upd (S32.2.1 8) v4.toNatClampNeg v2) := ⟨_, rfl⟩
    have h := h S34 hS34
    refine r_iast (ws' := mW g a S34) C 7 rfl hi33 dX6_want_340 (by rw [hS34]; rfl) ?_
    refine r_aload_n C dX6_want_341 rfl ?_
    refine r_get (cn := RX6) (T := TX6) (N := 43) (ci := 6) C uwX6_want_6 0 rfl rfl 9 (by decide) kwX6_want_11 (v := .ref (a 9)) rfl dX6_want_342 ?_
    refine r_iload C dX6_want_345 rfl ?_
    refine r_iload_n C dX6_want_347 rfl ?_
    obtain ⟨hi35, h⟩ := h
    obtain ⟨S36, hS36⟩ : ∃ z : RS, z = sA S34 9 (upd (S34.2.1 9) v4.toNatClampNeg v3) := ⟨_, rfl⟩
    have h := h S36 hS36
    refine r_iast (ws' := mW g a S36) C 8 rfl hi35 dX6_want_348 (by rw [hS36]; rfl) ?_
    refine r_aload_n C dX6_want_349 rfl ?_
    refine r_get (cn := RX6) (T := TX6) (N := 43) (ci := 6) C uwX6_want_6 0 rfl rfl 10 (by decide) kwX6_want_12 (v := .ref (a 10)) rfl dX6_want_350 ?_
    refine r_iload C dX6_want_353 rfl ?_
    refine r_aload_n C dX6_want_355 rfl ?_
    refine r_get (cn := RX6) (T := TX6) (N := 43) (ci := 6) C uwX6_want_6 0 rfl rfl 0 (by decide) kwX6_want_13 (v := .int (S36.1 0)) rfl dX6_want_356 ?_
    obtain ⟨hi37, h⟩ := h
    obtain ⟨S38, hS38⟩ : ∃ z : RS, z = sA S36 10 (upd (S36.2.1 10) v4.toNatClampNeg (S36.1 0)) := ⟨_, rfl⟩
    have h := h S38 hS38
    refine r_iast (ws' := mW g a S38) C 9 rfl hi37 dX6_want_359 (by rw [hS38]; rfl) ?_
    refine r_aload_n C dX6_want_360 rfl ?_
    refine r_get (cn := RX6) (T := TX6) (N := 43) (ci := 6) C uwX6_want_6 0 rfl rfl 11 (by decide) kwX6_want_14 (v := .ref (a 11)) rfl dX6_want_361 ?_
    refine r_iload C dX6_want_364 rfl ?_
    refine r_iconst (v := (-1)) C dX6_want_366 (by decide) ?_
    obtain ⟨hi39, h⟩ := h
    obtain ⟨S40, hS40⟩ : ∃ z : RS, z = sA S38 11 (upd (S38.2.1 11) v4.toNatClampNeg (-1)) := ⟨_, rfl⟩
    have h := h S40 hS40
    refine r_iast (ws' := mW g a S40) C 10 rfl hi39 dX6_want_367 (by rw [hS40]; rfl) ?_
    refine r_aload_n C dX6_want_368 rfl ?_
    refine r_get (cn := RX6) (T := TX6) (N := 43) (ci := 6) C uwX6_want_6 0 rfl rfl 12 (by decide) kwX6_want_15 (v := .ref (a 12)) rfl dX6_want_369 ?_
    refine r_iload C dX6_want_372 rfl ?_
    refine r_iload C dX6_want_374 rfl ?_
    obtain ⟨hi41, h⟩ := h
    obtain ⟨S42, hS42⟩ : ∃ z : RS, z = sA S40 12 (upd (S40.2.1 12) v4.toNatClampNeg x28) := ⟨_, rfl⟩
    have h := h S42 hS42
    refine r_iast (ws' := mW g a S42) C 11 rfl hi41 dX6_want_376 (by rw [hS42]; rfl) ?_
    refine r_aload_n C dX6_want_377 rfl ?_
    refine r_dup C dX6_want_378 rfl ?_
    refine r_get (cn := RX6) (T := TX6) (N := 43) (ci := 6) C uwX6_want_6 0 rfl rfl 13 (by decide) kwX6_want_0 (v := .int (S42.1 13)) rfl dX6_want_379 ?_
    refine r_iconst (v := 1) C dX6_want_382 (by decide) ?_
    refine r_iadd C dX6_want_383 ?_
    obtain ⟨S43, hS43⟩ : ∃ z : RS, z = sI S42 13 ((S42.1 13) + (1 : Int32)) := ⟨_, rfl⟩
    have h := h S43 hS43
    refine r_put (cn := RX6) (T := TX6) (N := 43) (ci := 6) (ws' := mW g a S43) C uwX6_want_6 tyX6 tyX6_ok nmX6 0 rfl rfl 13 (by decide) kwX6_want_0 rfl rfl rfl (Nat.le_of_ble_eq_true rfl) dX6_want_384 (by rw [hS43]; rfl) ?_
    refine r_iload C dX6_want_387 rfl ?_
    exact r_iret C hZ (u := S43) h rfl dX6_want_389
  · have h := h.2 c30
    refine r_bipush (v := (-100)) C dX6_want_317 (by decide) ?_
    refine r_aload_n C dX6_want_319 rfl ?_
    refine r_get (cn := RX6) (T := TX6) (N := 43) (ci := 6) C uwX6_want_6 0 rfl rfl 37 (by decide) kwX6_want_4 (v := .int (S29.1 37)) rfl dX6_want_320 ?_
    refine r_isub C dX6_want_323 ?_
    exact r_iret C hZ (u := S29) h rfl dX6_want_324
def fX6_want_275 (N : Nat) (S : RS) (v1 : Int32) (v2 : Int32) (v3 : Int32) (v4 : Int32) (Q : Int32 → RS → Prop) : Prop :=
  ((0 ≤ (S.1 37) → (fX6_want_299 N S v1 v2 v3 v4 Q)) ∧ (¬ 0 ≤ (S.1 37) → (((S.1 2) ≤ (S.1 35) → (fX6_want_299 N S v1 v2 v3 v4 Q)) ∧ (¬ (S.1 2) ≤ (S.1 35) → (fX6_wrong N S (fun r45 S46 => (fX6_want_299 N S46 v1 v2 v3 v4 Q)))))))
set_option maxRecDepth 100000 in
set_option maxHeartbeats 4000000 in
theorem wfX6_want_275 {x : Nx} {g : Gx} {W0 : va_W} {a : Nat → Nat} {S : RS} {N : Nat} {v1 : Int32} {v2 : Int32} {v3 : Int32} {v4 : Int32} {Q : Int32 → RS → Prop} (C : Cx x g cX6_want RX6 wsX6_want rmX6_want yX6_want (some .int) 8) (hZ : Zq x g W0 (fun u : RS => mW g a u) (qI (fun (r : Int32) (u : RS) => Q r u)) 0 0) (h : fX6_want_275 N S v1 v2 v3 v4 Q) : St x 0 0 (mW g a S) [(0, .ref (a 50)), (1, .int v1), (2, .int v2), (3, .int v3), (4, .int v4)] [] 275 := by
  unfold fX6_want_275 at h
  refine r_aload_n C dX6_want_275 rfl ?_
  refine r_get (cn := RX6) (T := TX6) (N := 43) (ci := 6) C uwX6_want_6 0 rfl rfl 37 (by decide) kwX6_want_4 (v := .int (S.1 37)) rfl dX6_want_276 ?_
  refine r_if_ge (tgt := 299) C dX6_want_279 (by decide) (fun c27 => ?_) (fun c27 => ?_)
  · have h := h.1 c27
    exact wfX6_want_299 C hZ h
  · have h := h.2 c27
    refine r_aload_n C dX6_want_282 rfl ?_
    refine r_get (cn := RX6) (T := TX6) (N := 43) (ci := 6) C uwX6_want_6 0 rfl rfl 35 (by decide) kwX6_want_2 (v := .int (S.1 35)) rfl dX6_want_283 ?_
    refine r_aload_n C dX6_want_286 rfl ?_
    refine r_get (cn := RX6) (T := TX6) (N := 43) (ci := 6) C uwX6_want_6 0 rfl rfl 2 (by decide) kwX6_want_8 (v := .int (S.1 2)) rfl dX6_want_287 ?_
    refine r_icmp_ge (tgt := 299) C dX6_want_290 (by decide) (fun c44 => ?_) (fun c44 => ?_)
    · have h := h.1 c44
      exact wfX6_want_299 C hZ h
    · have h := h.2 c44
      refine r_aload_n C dX6_want_293 rfl ?_
      refine callW_L C (run_V (As := []) (rest := []) (ci := 6) C hZ.2.2 (tX6_wrong _ g a S N _ h) gX6_want_X6_wrong rfl dsX6_wrong rfl rfl ⟨(Nat.le_of_ble_eq_true rfl), (Nat.le_of_ble_eq_true rfl)⟩ rfl (List.mem_of_getElem? (i := 0) rfl) rfl (Nat.le_of_ble_eq_true rfl) dX6_want_294 ⟨Nat.zero_le _, Nat.zero_le _⟩) (fun r45 S46 h => ?_)
      show St x 0 0 (mW g a S46) _ _ 297
      refine r_lstore (lv' := [(0, .ref (a 50)), (1, .int v1), (2, .int v2), (3, .int v3), (4, .int v4), (5, .long r45)]) C dX6_want_297 [some 0, some 1, some 2, some 3, some 4, none] (by decide) rfl rfl ?_
      refine r_sub [0, 1, 2, 3, 4] (lv' := [(0, .ref (a 50)), (1, .int v1), (2, .int v2), (3, .int v3), (4, .int v4)]) rfl ?_
      exact wfX6_want_299 C hZ h
def fX6_want_244 (N : Nat) (S : RS) (v1 : Int32) (v2 : Int32) (v3 : Int32) (v4 : Int32) (Q : Int32 → RS → Prop) : Prop :=
  ((0 ≤ (S.1 37) → (fX6_want_275 N S v1 v2 v3 v4 Q)) ∧ (¬ 0 ≤ (S.1 37) → (fX6_byteAt N S (fun r47 => (vp_in v4 20 ∧ (∀ S49 : RS, S49 = sA S 4 (upd (S.2.1 4) v4.toNatClampNeg (r47 - (48 : Int32))) → (∀ S50 : RS, S50 = sI S49 35 ((S49.1 35) + (1 : Int32)) → (fX6_want_275 N S50 v1 v2 v3 v4 Q))))))))
set_option maxRecDepth 100000 in
set_option maxHeartbeats 4000000 in
theorem wfX6_want_244 {x : Nx} {g : Gx} {W0 : va_W} {a : Nat → Nat} {S : RS} {N : Nat} {v1 : Int32} {v2 : Int32} {v3 : Int32} {v4 : Int32} {Q : Int32 → RS → Prop} (C : Cx x g cX6_want RX6 wsX6_want rmX6_want yX6_want (some .int) 8) (hZ : Zq x g W0 (fun u : RS => mW g a u) (qI (fun (r : Int32) (u : RS) => Q r u)) 0 0) (h : fX6_want_244 N S v1 v2 v3 v4 Q) : St x 0 0 (mW g a S) [(0, .ref (a 50)), (1, .int v1), (2, .int v2), (3, .int v3), (4, .int v4)] [] 244 := by
  unfold fX6_want_244 at h
  refine r_aload_n C dX6_want_244 rfl ?_
  refine r_get (cn := RX6) (T := TX6) (N := 43) (ci := 6) C uwX6_want_6 0 rfl rfl 37 (by decide) kwX6_want_4 (v := .int (S.1 37)) rfl dX6_want_245 ?_
  refine r_if_ge (tgt := 275) C dX6_want_248 (by decide) (fun c26 => ?_) (fun c26 => ?_)
  · have h := h.1 c26
    exact wfX6_want_275 C hZ h
  · have h := h.2 c26
    refine r_aload_n C dX6_want_251 rfl ?_
    refine r_get (cn := RX6) (T := TX6) (N := 43) (ci := 6) C uwX6_want_6 0 rfl rfl 4 (by decide) kwX6_want_6 (v := .ref (a 4)) rfl dX6_want_252 ?_
    refine r_iload C dX6_want_255 rfl ?_
    refine r_aload_n C dX6_want_257 rfl ?_
    refine callR_I C (run_V (As := []) (rest := [.int v4, .ref (a 4)]) (ci := 6) C hZ.2.2 (tX6_byteAt _ g a S N _ h) gX6_want_X6_byteAt rfl dsX6_byteAt rfl rfl ⟨(Nat.le_of_ble_eq_true rfl), (Nat.le_of_ble_eq_true rfl)⟩ rfl (List.mem_of_getElem? (i := 0) rfl) rfl (Nat.le_of_ble_eq_true rfl) dX6_want_258 ⟨Nat.zero_le _, Nat.zero_le _⟩) (List.Sublist.refl _) (fun _ => rfl) (fun r47 _ h => ?_)
    refine r_bipush (v := 48) C dX6_want_261 (by decide) ?_
    refine r_isub C dX6_want_263 ?_
    obtain ⟨hi48, h⟩ := h
    obtain ⟨S49, hS49⟩ : ∃ z : RS, z = sA S 4 (upd (S.2.1 4) v4.toNatClampNeg (r47 - (48 : Int32))) := ⟨_, rfl⟩
    have h := h S49 hS49
    refine r_iast (ws' := mW g a S49) C 3 rfl hi48 dX6_want_264 (by rw [hS49]; rfl) ?_
    refine r_aload_n C dX6_want_265 rfl ?_
    refine r_dup C dX6_want_266 rfl ?_
    refine r_get (cn := RX6) (T := TX6) (N := 43) (ci := 6) C uwX6_want_6 0 rfl rfl 35 (by decide) kwX6_want_2 (v := .int (S49.1 35)) rfl dX6_want_267 ?_
    refine r_iconst (v := 1) C dX6_want_270 (by decide) ?_
    refine r_iadd C dX6_want_271 ?_
    obtain ⟨S50, hS50⟩ : ∃ z : RS, z = sI S49 35 ((S49.1 35) + (1 : Int32)) := ⟨_, rfl⟩
    have h := h S50 hS50
    refine r_put (cn := RX6) (T := TX6) (N := 43) (ci := 6) (ws' := mW g a S50) C uwX6_want_6 tyX6 tyX6_ok nmX6 0 rfl rfl 35 (by decide) kwX6_want_2 rfl rfl rfl (Nat.le_of_ble_eq_true rfl) dX6_want_272 (by rw [hS50]; rfl) ?_
    exact wfX6_want_275 C hZ h
def fX6_want_238 (N : Nat) (S : RS) (v1 : Int32) (v2 : Int32) (v3 : Int32) (v4 : Int32) (Q : Int32 → RS → Prop) : Prop :=
  (fX6_wrong N S (fun r53 S54 => (fX6_want_244 N S54 v1 v2 v3 v4 Q)))
set_option maxRecDepth 100000 in
set_option maxHeartbeats 4000000 in
theorem wfX6_want_238 {x : Nx} {g : Gx} {W0 : va_W} {a : Nat → Nat} {S : RS} {N : Nat} {v1 : Int32} {v2 : Int32} {v3 : Int32} {v4 : Int32} {Q : Int32 → RS → Prop} (C : Cx x g cX6_want RX6 wsX6_want rmX6_want yX6_want (some .int) 8) (hZ : Zq x g W0 (fun u : RS => mW g a u) (qI (fun (r : Int32) (u : RS) => Q r u)) 0 0) (h : fX6_want_238 N S v1 v2 v3 v4 Q) : St x 0 0 (mW g a S) [(0, .ref (a 50)), (1, .int v1), (2, .int v2), (3, .int v3), (4, .int v4)] [] 238 := by
  unfold fX6_want_238 at h
  refine r_aload_n C dX6_want_238 rfl ?_
  refine callW_L C (run_V (As := []) (rest := []) (ci := 6) C hZ.2.2 (tX6_wrong _ g a S N _ h) gX6_want_X6_wrong rfl dsX6_wrong rfl rfl ⟨(Nat.le_of_ble_eq_true rfl), (Nat.le_of_ble_eq_true rfl)⟩ rfl (List.mem_of_getElem? (i := 0) rfl) rfl (Nat.le_of_ble_eq_true rfl) dX6_want_239 ⟨Nat.zero_le _, Nat.zero_le _⟩) (fun r53 S54 h => ?_)
  show St x 0 0 (mW g a S54) _ _ 242
  refine r_lstore (lv' := [(0, .ref (a 50)), (1, .int v1), (2, .int v2), (3, .int v3), (4, .int v4), (6, .long r53)]) C dX6_want_242 [some 0, some 1, some 2, some 3, some 4, none] (by decide) rfl rfl ?_
  refine r_sub [0, 1, 2, 3, 4] (lv' := [(0, .ref (a 50)), (1, .int v1), (2, .int v2), (3, .int v3), (4, .int v4)]) rfl ?_
  exact wfX6_want_244 C hZ h
def fX6_want_213 (N : Nat) (S : RS) (v1 : Int32) (v2 : Int32) (v3 : Int32) (v4 : Int32) (Q : Int32 → RS → Prop) : Prop :=
  ((0 ≤ (S.1 37) → (fX6_want_244 N S v1 v2 v3 v4 Q)) ∧ (¬ 0 ≤ (S.1 37) → (fX6_byteAt N S (fun r51 => ((r51 < 48 → (fX6_want_238 N S v1 v2 v3 v4 Q)) ∧ (¬ r51 < 48 → (fX6_byteAt N S (fun r55 => ((r55 ≤ 51 → (fX6_want_244 N S v1 v2 v3 v4 Q)) ∧ (¬ r55 ≤ 51 → (fX6_want_238 N S v1 v2 v3 v4 Q)))))))))))
set_option maxRecDepth 100000 in
set_option maxHeartbeats 4000000 in
theorem wfX6_want_213 {x : Nx} {g : Gx} {W0 : va_W} {a : Nat → Nat} {S : RS} {N : Nat} {v1 : Int32} {v2 : Int32} {v3 : Int32} {v4 : Int32} {Q : Int32 → RS → Prop} (C : Cx x g cX6_want RX6 wsX6_want rmX6_want yX6_want (some .int) 8) (hZ : Zq x g W0 (fun u : RS => mW g a u) (qI (fun (r : Int32) (u : RS) => Q r u)) 0 0) (h : fX6_want_213 N S v1 v2 v3 v4 Q) : St x 0 0 (mW g a S) [(0, .ref (a 50)), (1, .int v1), (2, .int v2), (3, .int v3), (4, .int v4)] [] 213 := by
  unfold fX6_want_213 at h
  refine r_aload_n C dX6_want_213 rfl ?_
  refine r_get (cn := RX6) (T := TX6) (N := 43) (ci := 6) C uwX6_want_6 0 rfl rfl 37 (by decide) kwX6_want_4 (v := .int (S.1 37)) rfl dX6_want_214 ?_
  refine r_if_ge (tgt := 244) C dX6_want_217 (by decide) (fun c25 => ?_) (fun c25 => ?_)
  · have h := h.1 c25
    exact wfX6_want_244 C hZ h
  · have h := h.2 c25
    refine r_aload_n C dX6_want_220 rfl ?_
    refine callR_I C (run_V (As := []) (rest := []) (ci := 6) C hZ.2.2 (tX6_byteAt _ g a S N _ h) gX6_want_X6_byteAt rfl dsX6_byteAt rfl rfl ⟨(Nat.le_of_ble_eq_true rfl), (Nat.le_of_ble_eq_true rfl)⟩ rfl (List.mem_of_getElem? (i := 0) rfl) rfl (Nat.le_of_ble_eq_true rfl) dX6_want_221 ⟨Nat.zero_le _, Nat.zero_le _⟩) (List.Sublist.refl _) (fun _ => rfl) (fun r51 _ h => ?_)
    refine r_bipush (v := 48) C dX6_want_224 (by decide) ?_
    refine r_icmp_lt (tgt := 238) C dX6_want_226 (by decide) (fun c52 => ?_) (fun c52 => ?_)
    · have h := h.1 c52
      exact wfX6_want_238 C hZ h
    · have h := h.2 c52
      refine r_aload_n C dX6_want_229 rfl ?_
      refine callR_I C (run_V (As := []) (rest := []) (ci := 6) C hZ.2.2 (tX6_byteAt _ g a S N _ h) gX6_want_X6_byteAt rfl dsX6_byteAt rfl rfl ⟨(Nat.le_of_ble_eq_true rfl), (Nat.le_of_ble_eq_true rfl)⟩ rfl (List.mem_of_getElem? (i := 0) rfl) rfl (Nat.le_of_ble_eq_true rfl) dX6_want_230 ⟨Nat.zero_le _, Nat.zero_le _⟩) (List.Sublist.refl _) (fun _ => rfl) (fun r55 _ h => ?_)
      refine r_bipush (v := 51) C dX6_want_233 (by decide) ?_
      refine r_icmp_le (tgt := 244) C dX6_want_235 (by decide) (fun c56 => ?_) (fun c56 => ?_)
      · have h := h.1 c56
        exact wfX6_want_244 C hZ h
      · have h := h.2 c56
        exact wfX6_want_238 C hZ h
def fX6_want_191 (N : Nat) (S : RS) (v1 : Int32) (v2 : Int32) (v3 : Int32) (v4 : Int32) (k1 : Int32) (k2 : Int32) (Q : Int32 → RS → Prop) : Prop :=
  (vp_in k1 20 ∧ (∀ S59 : RS, S59 = sA S 3 (upd (S.2.1 3) k1.toNatClampNeg k2) → (∀ S60 : RS, S60 = sI S59 35 ((S59.1 35) + (1 : Int32)) → (fX6_any N S60 (fun r61 S62 => (vp_in v4 20 ∧ (∀ S64 : RS, S64 = sM S62 6 (vp_updL (S62.2.2.2 6) v4.toNatClampNeg r61) → (fX6_want_213 N S64 v1 v2 v3 v4 Q))))))))
set_option maxRecDepth 100000 in
set_option maxHeartbeats 4000000 in
theorem wfX6_want_191 {x : Nx} {g : Gx} {W0 : va_W} {a : Nat → Nat} {S : RS} {N : Nat} {v1 : Int32} {v2 : Int32} {v3 : Int32} {v4 : Int32} {k1 : Int32} {k2 : Int32} {Q : Int32 → RS → Prop} (C : Cx x g cX6_want RX6 wsX6_want rmX6_want yX6_want (some .int) 8) (hZ : Zq x g W0 (fun u : RS => mW g a u) (qI (fun (r : Int32) (u : RS) => Q r u)) 0 0) (h : fX6_want_191 N S v1 v2 v3 v4 k1 k2 Q) : St x 0 0 (mW g a S) [(0, .ref (a 50)), (1, .int v1), (2, .int v2), (3, .int v3), (4, .int v4)] [.int k2, .int k1, .ref (a 3)] 191 := by
  unfold fX6_want_191 at h
  obtain ⟨hi58, h⟩ := h
  obtain ⟨S59, hS59⟩ : ∃ z : RS, z = sA S 3 (upd (S.2.1 3) k1.toNatClampNeg k2) := ⟨_, rfl⟩
  have h := h S59 hS59
  refine r_iast (ws' := mW g a S59) C 2 rfl hi58 dX6_want_191 (by rw [hS59]; rfl) ?_
  refine r_aload_n C dX6_want_192 rfl ?_
  refine r_dup C dX6_want_193 rfl ?_
  refine r_get (cn := RX6) (T := TX6) (N := 43) (ci := 6) C uwX6_want_6 0 rfl rfl 35 (by decide) kwX6_want_2 (v := .int (S59.1 35)) rfl dX6_want_194 ?_
  refine r_iconst (v := 1) C dX6_want_197 (by decide) ?_
  refine r_iadd C dX6_want_198 ?_
  obtain ⟨S60, hS60⟩ : ∃ z : RS, z = sI S59 35 ((S59.1 35) + (1 : Int32)) := ⟨_, rfl⟩
  have h := h S60 hS60
  refine r_put (cn := RX6) (T := TX6) (N := 43) (ci := 6) (ws' := mW g a S60) C uwX6_want_6 tyX6 tyX6_ok nmX6 0 rfl rfl 35 (by decide) kwX6_want_2 rfl rfl rfl (Nat.le_of_ble_eq_true rfl) dX6_want_199 (by rw [hS60]; rfl) ?_
  refine r_aload_n C dX6_want_202 rfl ?_
  refine r_get (cn := RX6) (T := TX6) (N := 43) (ci := 6) C uwX6_want_6 0 rfl rfl 6 (by decide) kwX6_want_5 (v := .ref (a 6)) rfl dX6_want_203 ?_
  refine r_iload C dX6_want_206 rfl ?_
  refine r_aload_n C dX6_want_208 rfl ?_
  refine callW_L C (run_V (As := []) (rest := [.int v4, .ref (a 6)]) (ci := 6) C hZ.2.2 (tX6_any _ g a S60 N _ h) gX6_want_X6_any rfl dsX6_any rfl rfl ⟨(Nat.le_of_ble_eq_true rfl), (Nat.le_of_ble_eq_true rfl)⟩ rfl (List.mem_of_getElem? (i := 0) rfl) rfl (Nat.le_of_ble_eq_true rfl) dX6_want_209 ⟨Nat.zero_le _, Nat.zero_le _⟩) (fun r61 S62 h => ?_)
  show St x 0 0 (mW g a S62) _ _ 212
  obtain ⟨hi63, h⟩ := h
  obtain ⟨S64, hS64⟩ : ∃ z : RS, z = sM S62 6 (vp_updL (S62.2.2.2 6) v4.toNatClampNeg r61) := ⟨_, rfl⟩
  have h := h S64 hS64
  refine r_last (ws' := mW g a S64) C 5 rfl hi63 dX6_want_212 (by rw [hS64]; rfl) ?_
  exact wfX6_want_213 C hZ h
def fX6_want_166 (N : Nat) (S : RS) (v1 : Int32) (v2 : Int32) (v3 : Int32) (v4 : Int32) (v5 : Int32) (Q : Int32 → RS → Prop) : Prop :=
  ((0 ≤ (S.1 37) → (fX6_want_213 N S v1 v2 v3 v4 Q)) ∧ (¬ 0 ≤ (S.1 37) → ((¬ v5 = 62 → (fX6_want_191 N S v1 v2 v3 v4 v4 2 Q)) ∧ (v5 = 62 → (fX6_want_191 N S v1 v2 v3 v4 v4 1 Q)))))
set_option maxRecDepth 100000 in
set_option maxHeartbeats 4000000 in
theorem wfX6_want_166 {x : Nx} {g : Gx} {W0 : va_W} {a : Nat → Nat} {S : RS} {N : Nat} {v1 : Int32} {v2 : Int32} {v3 : Int32} {v4 : Int32} {v5 : Int32} {Q : Int32 → RS → Prop} (C : Cx x g cX6_want RX6 wsX6_want rmX6_want yX6_want (some .int) 8) (hZ : Zq x g W0 (fun u : RS => mW g a u) (qI (fun (r : Int32) (u : RS) => Q r u)) 0 0) (h : fX6_want_166 N S v1 v2 v3 v4 v5 Q) : St x 0 0 (mW g a S) [(0, .ref (a 50)), (1, .int v1), (2, .int v2), (3, .int v3), (4, .int v4), (5, .int v5)] [] 166 := by
  unfold fX6_want_166 at h
  refine r_aload_n C dX6_want_166 rfl ?_
  refine r_get (cn := RX6) (T := TX6) (N := 43) (ci := 6) C uwX6_want_6 0 rfl rfl 37 (by decide) kwX6_want_4 (v := .int (S.1 37)) rfl dX6_want_167 ?_
  refine r_if_ge (tgt := 213) C dX6_want_170 (by decide) (fun c24 => ?_) (fun c24 => ?_)
  · have h := h.1 c24
    refine r_sub [0, 1, 2, 3, 4] (lv' := [(0, .ref (a 50)), (1, .int v1), (2, .int v2), (3, .int v3), (4, .int v4)]) rfl ?_
    exact wfX6_want_213 C hZ h
  · have h := h.2 c24
    refine r_aload_n C dX6_want_173 rfl ?_
    refine r_get (cn := RX6) (T := TX6) (N := 43) (ci := 6) C uwX6_want_6 0 rfl rfl 3 (by decide) kwX6_want_16 (v := .ref (a 3)) rfl dX6_want_174 ?_
    refine r_iload C dX6_want_177 rfl ?_
    refine r_iload C dX6_want_179 rfl ?_
    refine r_bipush (v := 62) C dX6_want_181 (by decide) ?_
    refine r_icmp_ne (tgt := 190) C dX6_want_183 (by decide) (fun c57 => ?_) (fun c57 => ?_)
    · have h := h.1 c57
      refine r_iconst (v := 2) C dX6_want_190 (by decide) ?_
      refine r_sub [0, 1, 2, 3, 4] (lv' := [(0, .ref (a 50)), (1, .int v1), (2, .int v2), (3, .int v3), (4, .int v4)]) rfl ?_
      exact wfX6_want_191 C hZ h
    · have h := h.2 c57
      refine r_iconst (v := 1) C dX6_want_186 (by decide) ?_
      refine r_goto (tgt := 191) C dX6_want_187 (by decide) ?_
      refine r_sub [0, 1, 2, 3, 4] (lv' := [(0, .ref (a 50)), (1, .int v1), (2, .int v2), (3, .int v3), (4, .int v4)]) rfl ?_
      exact wfX6_want_191 C hZ h
def fX6_want (N : Nat) (S : RS) (v1 : Int32) (v2 : Int32) (v3 : Int32) (Q : Int32 → RS → Prop) : Prop :=
  (fX6_within N v1 0 9 (fun r1 => ((r1 = 0 → Q (-1) S) ∧ (¬ r1 = 0 → (fX6_within N v2 1 99 (fun r3 => ((r3 = 0 → Q (-1) S) ∧ (¬ r3 = 0 → (fX6_within N v3 1 99 (fun r5 => ((¬ r5 = 0 → ((¬ (S.1 13) = 20 → (∀ S8 : RS, S8 = sI S 35 0 → (∀ S9 : RS, S9 = sI S8 36 0 → (∀ S10 : RS, S10 = sI S9 37 (-1) → (∀ x11 : Int32, x11 = S10.1 13 → (vp_in x11 20 ∧ (∀ S13 : RS, S13 = sM S10 6 (vp_updL (S10.2.2.2 6) x11.toNatClampNeg 0) → (vp_in x11 20 ∧ (∀ S15 : RS, S15 = sA S13 4 (upd (S13.2.1 4) x11.toNatClampNeg 0) → (fX6_byteAt N S15 (fun r16 => ((¬ r16 = 33 → (fX6_any N S15 (fun r18 S19 => (vp_in x11 20 ∧ (∀ S21 : RS, S21 = sM S19 5 (vp_updL (S19.2.2.2 5) x11.toNatClampNeg r18) → (fX6_byteAt N S21 (fun r22 => ((0 ≤ (S21.1 37) → (fX6_want_166 N S21 v1 v2 v3 x11 r22 Q)) ∧ (¬ 0 ≤ (S21.1 37) → ((r22 = 62 → (fX6_want_166 N S21 v1 v2 v3 x11 r22 Q)) ∧ (¬ r22 = 62 → ((r22 = 59 → (fX6_want_166 N S21 v1 v2 v3 x11 r22 Q)) ∧ (¬ r22 = 59 → (fX6_wrong N S21 (fun r67 S68 => (fX6_want_166 N S68 v1 v2 v3 x11 r22 Q)))))))))))))))) ∧ (r16 = 33 → (vp_in x11 20 ∧ (∀ S70 : RS, S70 = sA S15 3 (upd (S15.2.1 3) x11.toNatClampNeg 0) → (∀ S71 : RS, S71 = sI S70 35 ((S70.1 35) + (1 : Int32)) → (fX6_any N S71 (fun r72 S73 => (vp_in x11 20 ∧ (∀ S75 : RS, S75 = sM S73 5 (vp_updL (S73.2.2.2 5) x11.toNatClampNeg r72) → (fX6_want_275 N S75 v1 v2 v3 x11 Q))))))))))))))))))))) ∧ ((S.1 13) = 20 → Q (-2) S))) ∧ (r5 = 0 → Q (-1) S))))))))))))
set_option maxRecDepth 100000 in
set_option maxHeartbeats 4000000 in
theorem tX6_want (l : Launch) (g : Gx) (a : Nat → Nat) (S : RS) (N : Nat) (v1 : Int32) (v2 : Int32) (v3 : Int32) (Q : Int32 → RS → Prop) (h : fX6_want N S v1 v2 v3 Q) : MetG l g yX6_want wsX6_want rmX6_want [.ref (a 50), .int v1, .int v2, .int v3] (mW g a S) (fun u : RS => mW g a u) (qI (fun (r : Int32) (u : RS) => Q r u)) 0 0 := by
  refine met_of (cc := cX6_want) (own := RX6) (nL := 8) (ret := (some .int)) (lv := [(0, .ref (a 50)), (1, .int v1), (2, .int v2), (3, .int v3)]) (by decide) rfl rfl (Nat.le_of_ble_eq_true rfl) rfl ?_
  intro x C hl hZ
  subst hl
  unfold fX6_want at h
  refine r_iload_n C dX6_want_0 rfl ?_
  refine r_iconst (v := 0) C dX6_want_1 (by decide) ?_
  refine r_bipush (v := 9) C dX6_want_2 (by decide) ?_
  refine callR_I C (run_S (As := [.int v1, .int 0, .int 9]) (rest := []) C hZ.2.2 (tX6_within _ g N v1 0 9 _ h) gX6_want_X6_within rfl dsX6_within rfl rfl ⟨(Nat.le_of_ble_eq_true rfl), (Nat.le_of_ble_eq_true rfl)⟩ rfl (Nat.le_of_ble_eq_true rfl) dX6_want_4 ⟨Nat.zero_le _, Nat.zero_le _⟩) (List.nil_sublist _) (fun _ => rfl) (fun r1 _ h => ?_)
  refine r_if_eq (tgt := 30) C dX6_want_7 (by decide) (fun c2 => ?_) (fun c2 => ?_)
  · have h := h.1 c2
    refine r_iconst (v := (-1)) C dX6_want_30 (by decide) ?_
    exact r_iret C hZ (u := S) h rfl dX6_want_31
  · have h := h.2 c2
    refine r_iload_n C dX6_want_10 rfl ?_
    refine r_iconst (v := 1) C dX6_want_11 (by decide) ?_
    refine r_bipush (v := 99) C dX6_want_12 (by decide) ?_
    refine callR_I C (run_S (As := [.int v2, .int 1, .int 99]) (rest := []) C hZ.2.2 (tX6_within _ g N v2 1 99 _ h) gX6_want_X6_within rfl dsX6_within rfl rfl ⟨(Nat.le_of_ble_eq_true rfl), (Nat.le_of_ble_eq_true rfl)⟩ rfl (Nat.le_of_ble_eq_true rfl) dX6_want_14 ⟨Nat.zero_le _, Nat.zero_le _⟩) (List.nil_sublist _) (fun _ => rfl) (fun r3 _ h => ?_)
    refine r_if_eq (tgt := 30) C dX6_want_17 (by decide) (fun c4 => ?_) (fun c4 => ?_)
    · have h := h.1 c4
      refine r_iconst (v := (-1)) C dX6_want_30 (by decide) ?_
      exact r_iret C hZ (u := S) h rfl dX6_want_31
    · have h := h.2 c4
      refine r_iload_n C dX6_want_20 rfl ?_
      refine r_iconst (v := 1) C dX6_want_21 (by decide) ?_
      refine r_bipush (v := 99) C dX6_want_22 (by decide) ?_
      refine callR_I C (run_S (As := [.int v3, .int 1, .int 99]) (rest := []) C hZ.2.2 (tX6_within _ g N v3 1 99 _ h) gX6_want_X6_within rfl dsX6_within rfl rfl ⟨(Nat.le_of_ble_eq_true rfl), (Nat.le_of_ble_eq_true rfl)⟩ rfl (Nat.le_of_ble_eq_true rfl) dX6_want_24 ⟨Nat.zero_le _, Nat.zero_le _⟩) (List.nil_sublist _) (fun _ => rfl) (fun r5 _ h => ?_)
      refine r_if_ne (tgt := 32) C dX6_want_27 (by decide) (fun c6 => ?_) (fun c6 => ?_)
      · have h := h.1 c6
        refine r_aload_n C dX6_want_32 rfl ?_
        refine r_get (cn := RX6) (T := TX6) (N := 43) (ci := 6) C uwX6_want_6 0 rfl rfl 13 (by decide) kwX6_want_0 (v := .int (S.1 13)) rfl dX6_want_33 ?_
        refine r_bipush (v := 20) C dX6_want_36 (by decide) ?_
        refine r_icmp_ne (tgt := 44) C dX6_want_38 (by decide) (fun c7 => ?_) (fun c7 => ?_)
        · have h := h.1 c7
          refine r_aload_n C dX6_want_44 rfl ?_
          refine r_iconst (v := 0) C dX6_want_45 (by decide) ?_
          obtain ⟨S8, hS8⟩ : ∃ z : RS, z = sI S 35 0 := ⟨_, rfl⟩
          have h := h S8 hS8
          refine r_put (cn := RX6) (T := TX6) (N := 43) (ci := 6) (ws' := mW g a S8) C uwX6_want_6 tyX6 tyX6_ok nmX6 0 rfl rfl 35 (by decide) kwX6_want_2 rfl rfl rfl (Nat.le_of_ble_eq_true rfl) dX6_want_46 (by rw [hS8]; rfl) ?_
          refine r_aload_n C dX6_want_49 rfl ?_
          refine r_iconst (v := 0) C dX6_want_50 (by decide) ?_
          obtain ⟨S9, hS9⟩ : ∃ z : RS, z = sI S8 36 0 := ⟨_, rfl⟩
          have h := h S9 hS9
          refine r_put (cn := RX6) (T := TX6) (N := 43) (ci := 6) (ws' := mW g a S9) C uwX6_want_6 tyX6 tyX6_ok nmX6 0 rfl rfl 36 (by decide) kwX6_want_3 rfl rfl rfl (Nat.le_of_ble_eq_true rfl) dX6_want_51 (by rw [hS9]; rfl) ?_
          refine r_aload_n C dX6_want_54 rfl ?_
          refine r_iconst (v := (-1)) C dX6_want_55 (by decide) ?_
          obtain ⟨S10, hS10⟩ : ∃ z : RS, z = sI S9 37 (-1) := ⟨_, rfl⟩
          have h := h S10 hS10
          refine r_put (cn := RX6) (T := TX6) (N := 43) (ci := 6) (ws' := mW g a S10) C uwX6_want_6 tyX6 tyX6_ok nmX6 0 rfl rfl 37 (by decide) kwX6_want_4 rfl rfl rfl (Nat.le_of_ble_eq_true rfl) dX6_want_56 (by rw [hS10]; rfl) ?_
          refine r_aload_n C dX6_want_59 rfl ?_
          refine r_get (cn := RX6) (T := TX6) (N := 43) (ci := 6) C uwX6_want_6 0 rfl rfl 13 (by decide) kwX6_want_0 (v := .int (S10.1 13)) rfl dX6_want_60 ?_
          refine r_topi (fun x11 ex11 => ?_)
          have h := h x11 ex11
          refine r_istore (lv' := [(0, .ref (a 50)), (1, .int v1), (2, .int v2), (3, .int v3), (4, .int x11)]) C dX6_want_63 [some 0, some 1, some 2, some 3, none] (by decide) rfl rfl ?_
          refine r_aload_n C dX6_want_65 rfl ?_
          refine r_get (cn := RX6) (T := TX6) (N := 43) (ci := 6) C uwX6_want_6 0 rfl rfl 6 (by decide) kwX6_want_5 (v := .ref (a 6)) rfl dX6_want_66 ?_
          refine r_iload C dX6_want_69 rfl ?_
          refine r_lconst (v := 0) C dX6_want_71 (by decide) ?_
          obtain ⟨hi12, h⟩ := h
          obtain ⟨S13, hS13⟩ : ∃ z : RS, z = sM S10 6 (vp_updL (S10.2.2.2 6) x11.toNatClampNeg 0) := ⟨_, rfl⟩
          have h := h S13 hS13
          refine r_last (ws' := mW g a S13) C 5 rfl hi12 dX6_want_72 (by rw [hS13]; rfl) ?_
          refine r_aload_n C dX6_want_73 rfl ?_
          refine r_get (cn := RX6) (T := TX6) (N := 43) (ci := 6) C uwX6_want_6 0 rfl rfl 4 (by decide) kwX6_want_6 (v := .ref (a 4)) rfl dX6_want_74 ?_
          refine r_iload C dX6_want_77 rfl ?_
          refine r_iconst (v := 0) C dX6_want_79 (by decide) ?_
          obtain ⟨hi14, h⟩ := h
          obtain ⟨S15, hS15⟩ : ∃ z : RS, z = sA S13 4 (upd (S13.2.1 4) x11.toNatClampNeg 0) := ⟨_, rfl⟩
          have h := h S15 hS15
          refine r_iast (ws' := mW g a S15) C 3 rfl hi14 dX6_want_80 (by rw [hS15]; rfl) ?_
          refine r_aload_n C dX6_want_81 rfl ?_
          refine callR_I C (run_V (As := []) (rest := []) (ci := 6) C hZ.2.2 (tX6_byteAt _ g a S15 N _ h) gX6_want_X6_byteAt rfl dsX6_byteAt rfl rfl ⟨(Nat.le_of_ble_eq_true rfl), (Nat.le_of_ble_eq_true rfl)⟩ rfl (List.mem_of_getElem? (i := 0) rfl) rfl (Nat.le_of_ble_eq_true rfl) dX6_want_82 ⟨Nat.zero_le _, Nat.zero_le _⟩) (List.Sublist.refl _) (fun _ => rfl) (fun r16 _ h => ?_)
          refine r_bipush (v := 33) C dX6_want_85 (by decide) ?_
          refine r_icmp_ne (tgt := 122) C dX6_want_87 (by decide) (fun c17 => ?_) (fun c17 => ?_)
          · have h := h.1 c17
            refine r_aload_n C dX6_want_122 rfl ?_
            refine r_get (cn := RX6) (T := TX6) (N := 43) (ci := 6) C uwX6_want_6 0 rfl rfl 5 (by decide) kwX6_want_7 (v := .ref (a 5)) rfl dX6_want_123 ?_
            refine r_iload C dX6_want_126 rfl ?_
            refine r_aload_n C dX6_want_128 rfl ?_
            refine callW_L C (run_V (As := []) (rest := [.int x11, .ref (a 5)]) (ci := 6) C hZ.2.2 (tX6_any _ g a S15 N _ h) gX6_want_X6_any rfl dsX6_any rfl rfl ⟨(Nat.le_of_ble_eq_true rfl), (Nat.le_of_ble_eq_true rfl)⟩ rfl (List.mem_of_getElem? (i := 0) rfl) rfl (Nat.le_of_ble_eq_true rfl) dX6_want_129 ⟨Nat.zero_le _, Nat.zero_le _⟩) (fun r18 S19 h => ?_)
            show St x 0 0 (mW g a S19) _ _ 132
            obtain ⟨hi20, h⟩ := h
            obtain ⟨S21, hS21⟩ : ∃ z : RS, z = sM S19 5 (vp_updL (S19.2.2.2 5) x11.toNatClampNeg r18) := ⟨_, rfl⟩
            have h := h S21 hS21
            refine r_last (ws' := mW g a S21) C 4 rfl hi20 dX6_want_132 (by rw [hS21]; rfl) ?_
            refine r_aload_n C dX6_want_133 rfl ?_
            refine callR_I C (run_V (As := []) (rest := []) (ci := 6) C hZ.2.2 (tX6_byteAt _ g a S21 N _ h) gX6_want_X6_byteAt rfl dsX6_byteAt rfl rfl ⟨(Nat.le_of_ble_eq_true rfl), (Nat.le_of_ble_eq_true rfl)⟩ rfl (List.mem_of_getElem? (i := 0) rfl) rfl (Nat.le_of_ble_eq_true rfl) dX6_want_134 ⟨Nat.zero_le _, Nat.zero_le _⟩) (List.Sublist.refl _) (fun _ => rfl) (fun r22 _ h => ?_)
            refine r_istore (lv' := [(0, .ref (a 50)), (1, .int v1), (2, .int v2), (3, .int v3), (4, .int x11), (5, .int r22)]) C dX6_want_137 [some 0, some 1, some 2, some 3, some 4, none] (by decide) rfl rfl ?_
            refine r_aload_n C dX6_want_139 rfl ?_
            refine r_get (cn := RX6) (T := TX6) (N := 43) (ci := 6) C uwX6_want_6 0 rfl rfl 37 (by decide) kwX6_want_4 (v := .int (S21.1 37)) rfl dX6_want_140 ?_
            refine r_if_ge (tgt := 166) C dX6_want_143 (by decide) (fun c23 => ?_) (fun c23 => ?_)
            · have h := h.1 c23
              exact wfX6_want_166 C hZ h
            · have h := h.2 c23
              refine r_iload C dX6_want_146 rfl ?_
              refine r_bipush (v := 62) C dX6_want_148 (by decide) ?_
              refine r_icmp_eq (tgt := 166) C dX6_want_150 (by decide) (fun c65 => ?_) (fun c65 => ?_)
              · have h := h.1 c65
                exact wfX6_want_166 C hZ h
              · have h := h.2 c65
                refine r_iload C dX6_want_153 rfl ?_
                refine r_bipush (v := 59) C dX6_want_155 (by decide) ?_
                refine r_icmp_eq (tgt := 166) C dX6_want_157 (by decide) (fun c66 => ?_) (fun c66 => ?_)
                · have h := h.1 c66
                  exact wfX6_want_166 C hZ h
                · have h := h.2 c66
                  refine r_aload_n C dX6_want_160 rfl ?_
                  refine callW_L C (run_V (As := []) (rest := []) (ci := 6) C hZ.2.2 (tX6_wrong _ g a S21 N _ h) gX6_want_X6_wrong rfl dsX6_wrong rfl rfl ⟨(Nat.le_of_ble_eq_true rfl), (Nat.le_of_ble_eq_true rfl)⟩ rfl (List.mem_of_getElem? (i := 0) rfl) rfl (Nat.le_of_ble_eq_true rfl) dX6_want_161 ⟨Nat.zero_le _, Nat.zero_le _⟩) (fun r67 S68 h => ?_)
                  show St x 0 0 (mW g a S68) _ _ 164
                  refine r_lstore (lv' := [(0, .ref (a 50)), (1, .int v1), (2, .int v2), (3, .int v3), (4, .int x11), (5, .int r22), (6, .long r67)]) C dX6_want_164 [some 0, some 1, some 2, some 3, some 4, some 5, none] (by decide) rfl rfl ?_
                  refine r_sub [0, 1, 2, 3, 4, 5] (lv' := [(0, .ref (a 50)), (1, .int v1), (2, .int v2), (3, .int v3), (4, .int x11), (5, .int r22)]) rfl ?_
                  exact wfX6_want_166 C hZ h
          · have h := h.2 c17
            refine r_aload_n C dX6_want_90 rfl ?_
            refine r_get (cn := RX6) (T := TX6) (N := 43) (ci := 6) C uwX6_want_6 0 rfl rfl 3 (by decide) kwX6_want_16 (v := .ref (a 3)) rfl dX6_want_91 ?_
            refine r_iload C dX6_want_94 rfl ?_
            refine r_iconst (v := 0) C dX6_want_96 (by decide) ?_
            obtain ⟨hi69, h⟩ := h
            obtain ⟨S70, hS70⟩ : ∃ z : RS, z = sA S15 3 (upd (S15.2.1 3) x11.toNatClampNeg 0) := ⟨_, rfl⟩
            have h := h S70 hS70
            refine r_iast (ws' := mW g a S70) C 2 rfl hi69 dX6_want_97 (by rw [hS70]; rfl) ?_
            refine r_aload_n C dX6_want_98 rfl ?_
            refine r_dup C dX6_want_99 rfl ?_
            refine r_get (cn := RX6) (T := TX6) (N := 43) (ci := 6) C uwX6_want_6 0 rfl rfl 35 (by decide) kwX6_want_2 (v := .int (S70.1 35)) rfl dX6_want_100 ?_
            refine r_iconst (v := 1) C dX6_want_103 (by decide) ?_
            refine r_iadd C dX6_want_104 ?_
            obtain ⟨S71, hS71⟩ : ∃ z : RS, z = sI S70 35 ((S70.1 35) + (1 : Int32)) := ⟨_, rfl⟩
            have h := h S71 hS71
            refine r_put (cn := RX6) (T := TX6) (N := 43) (ci := 6) (ws' := mW g a S71) C uwX6_want_6 tyX6 tyX6_ok nmX6 0 rfl rfl 35 (by decide) kwX6_want_2 rfl rfl rfl (Nat.le_of_ble_eq_true rfl) dX6_want_105 (by rw [hS71]; rfl) ?_
            refine r_aload_n C dX6_want_108 rfl ?_
            refine r_get (cn := RX6) (T := TX6) (N := 43) (ci := 6) C uwX6_want_6 0 rfl rfl 5 (by decide) kwX6_want_7 (v := .ref (a 5)) rfl dX6_want_109 ?_
            refine r_iload C dX6_want_112 rfl ?_
            refine r_aload_n C dX6_want_114 rfl ?_
            refine callW_L C (run_V (As := []) (rest := [.int x11, .ref (a 5)]) (ci := 6) C hZ.2.2 (tX6_any _ g a S71 N _ h) gX6_want_X6_any rfl dsX6_any rfl rfl ⟨(Nat.le_of_ble_eq_true rfl), (Nat.le_of_ble_eq_true rfl)⟩ rfl (List.mem_of_getElem? (i := 0) rfl) rfl (Nat.le_of_ble_eq_true rfl) dX6_want_115 ⟨Nat.zero_le _, Nat.zero_le _⟩) (fun r72 S73 h => ?_)
            show St x 0 0 (mW g a S73) _ _ 118
            obtain ⟨hi74, h⟩ := h
            obtain ⟨S75, hS75⟩ : ∃ z : RS, z = sM S73 5 (vp_updL (S73.2.2.2 5) x11.toNatClampNeg r72) := ⟨_, rfl⟩
            have h := h S75 hS75
            refine r_last (ws' := mW g a S75) C 4 rfl hi74 dX6_want_118 (by rw [hS75]; rfl) ?_
            refine r_goto (tgt := 275) C dX6_want_119 (by decide) ?_
            exact wfX6_want_275 C hZ h
        · have h := h.2 c7
          refine r_bipush (v := (-2)) C dX6_want_41 (by decide) ?_
          exact r_iret C hZ (u := S) h rfl dX6_want_43
      · have h := h.2 c6
        refine r_iconst (v := (-1)) C dX6_want_30 (by decide) ?_
        exact r_iret C hZ (u := S) h rfl dX6_want_31
def rmX6_giveUp : Room := { frames := 1, cells := 0, slots := 0, locals := 21 }
theorem kwX6_giveUp_0 : Cond.fieldLink RX6 38 "WantsBenchModel" "givenUp" "[I" ∈ wsX6_giveUp := by decide +kernel
theorem uwX6_giveUp_6 : ∀ w ∈ wsX60, w ∈ wsX6_giveUp := by decide +kernel
theorem kwX6_giveUp_2 : Cond.fieldLink RX6 91 "WantsBenchModel" "today" "I" ∈ wsX6_giveUp := by decide +kernel
def fX6_giveUp (N : Nat) (S : RS) (v1 : Int32) (Q : Int32 → RS → Prop) : Prop :=
  (fX6_isWant N S v1 (fun r1 => ((¬ r1 = 0 → (vp_in v1 20 ∧ (((S.2.1 11 v1.toNatClampNeg) < 0 → (vp_in v1 20 ∧ (∀ S6 : RS, S6 = sA S 11 (upd (S.2.1 11) v1.toNatClampNeg (S.1 0)) → Q 1 S6))) ∧ (¬ (S.2.1 11 v1.toNatClampNeg) < 0 → Q (-3) S)))) ∧ (r1 = 0 → Q (-1) S))))
set_option maxRecDepth 100000 in
set_option maxHeartbeats 4000000 in
theorem tX6_giveUp (l : Launch) (g : Gx) (a : Nat → Nat) (S : RS) (N : Nat) (v1 : Int32) (Q : Int32 → RS → Prop) (h : fX6_giveUp N S v1 Q) : MetG l g yX6_giveUp wsX6_giveUp rmX6_giveUp [.ref (a 50), .int v1] (mW g a S) (fun u : RS => mW g a u) (qI (fun (r : Int32) (u : RS) => Q r u)) 0 0 := by
  refine met_of (cc := cX6_giveUp) (own := RX6) (nL := 2) (ret := (some .int)) (lv := [(0, .ref (a 50)), (1, .int v1)]) (by decide) rfl rfl (Nat.le_of_ble_eq_true rfl) rfl ?_
  intro x C hl hZ
  subst hl
  unfold fX6_giveUp at h
  refine r_aload_n C dX6_giveUp_0 rfl ?_
  refine r_iload_n C dX6_giveUp_1 rfl ?_
  refine callR_I C (run_V (As := [.int v1]) (rest := []) (ci := 6) C hZ.2.2 (tX6_isWant _ g a S N v1 _ h) gX6_giveUp_X6_isWant rfl dsX6_isWant rfl rfl ⟨(Nat.le_of_ble_eq_true rfl), (Nat.le_of_ble_eq_true rfl)⟩ rfl (List.mem_of_getElem? (i := 0) rfl) rfl (Nat.le_of_ble_eq_true rfl) dX6_giveUp_2 ⟨Nat.zero_le _, Nat.zero_le _⟩) (List.Sublist.refl _) (fun _ => rfl) (fun r1 _ h => ?_)
  refine r_if_ne (tgt := 10) C dX6_giveUp_5 (by decide) (fun c2 => ?_) (fun c2 => ?_)
  · have h := h.1 c2
    refine r_aload_n C dX6_giveUp_10 rfl ?_
    refine r_get (cn := RX6) (T := TX6) (N := 43) (ci := 6) C uwX6_giveUp_6 0 rfl rfl 11 (by decide) kwX6_giveUp_0 (v := .ref (a 11)) rfl dX6_giveUp_11 ?_
    refine r_iload_n C dX6_giveUp_14 rfl ?_
    obtain ⟨hi3, h⟩ := h
    refine r_iald C 10 rfl hi3 dX6_giveUp_15 ?_
    refine r_if_lt (tgt := 22) C dX6_giveUp_16 (by decide) (fun c4 => ?_) (fun c4 => ?_)
    · have h := h.1 c4
      refine r_aload_n C dX6_giveUp_22 rfl ?_
      refine r_get (cn := RX6) (T := TX6) (N := 43) (ci := 6) C uwX6_giveUp_6 0 rfl rfl 11 (by decide) kwX6_giveUp_0 (v := .ref (a 11)) rfl dX6_giveUp_23 ?_
      refine r_iload_n C dX6_giveUp_26 rfl ?_
      refine r_aload_n C dX6_giveUp_27 rfl ?_
      refine r_get (cn := RX6) (T := TX6) (N := 43) (ci := 6) C uwX6_giveUp_6 0 rfl rfl 0 (by decide) kwX6_giveUp_2 (v := .int (S.1 0)) rfl dX6_giveUp_28 ?_
      obtain ⟨hi5, h⟩ := h
      obtain ⟨S6, hS6⟩ : ∃ z : RS, z = sA S 11 (upd (S.2.1 11) v1.toNatClampNeg (S.1 0)) := ⟨_, rfl⟩
      have h := h S6 hS6
      refine r_iast (ws' := mW g a S6) C 10 rfl hi5 dX6_giveUp_31 (by rw [hS6]; rfl) ?_
      refine r_iconst (v := 1) C dX6_giveUp_32 (by decide) ?_
      exact r_iret C hZ (u := S6) h rfl dX6_giveUp_33
    · have h := h.2 c4
      refine r_bipush (v := (-3)) C dX6_giveUp_19 (by decide) ?_
      exact r_iret C hZ (u := S) h rfl dX6_giveUp_21
  · have h := h.2 c2
    refine r_iconst (v := (-1)) C dX6_giveUp_8 (by decide) ?_
    exact r_iret C hZ (u := S) h rfl dX6_giveUp_9
