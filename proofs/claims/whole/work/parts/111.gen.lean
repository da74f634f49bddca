def rmX6_findLost : Room := { frames := 3, cells := 0, slots := 0, locals := 75 }
theorem kwX6_findLost_0 : Cond.fieldLink RX6 156 "WantsBenchModel" "positions" "I" ∈ wsX6_findLost := by decide +kernel
theorem uwX6_findLost_6 : ∀ w ∈ wsX60, w ∈ wsX6_findLost := by decide +kernel
theorem kwX6_findLost_2 : Cond.fieldLink RX6 57 "WantsBenchModel" "losesIn" "[I" ∈ wsX6_findLost := by decide +kernel
def fX6_findLost_6b (N : Nat) (S : RS) (v1 : Int32) (R : Int32 → RS → Prop) (K : RS → Prop) (Q : RS → Prop) : Prop :=
  (((S.1 17) ≤ v1 → K S) ∧ (¬ (S.1 17) ≤ v1 → (vp_in v1 1024 ∧ (∀ S4 : RS, S4 = sA S 20 (upd (S.2.1 20) v1.toNatClampNeg (-1)) → (∀ x5 : Int32, x5 = v1 + 1 → R x5 S4)))))
set_option maxRecDepth 100000 in
set_option maxHeartbeats 4000000 in
theorem wfX6_findLost_6b {x : Nx} {g : Gx} {W0 : va_W} {a : Nat → Nat} {S : RS} {N : Nat} {v1 : Int32} {R : Int32 → RS → Prop} {K : RS → Prop} {Q : RS → Prop} (C : Cx x g cX6_findLost RX6 wsX6_findLost rmX6_findLost yX6_findLost none 4) (hZ : Zq x g W0 (fun u : RS => mW g a u) (qV (fun u : RS => Q u)) 0 0) (hR : ∀ (w1 : Int32) (S_ : RS), R w1 S_ → St x 0 0 (mW g a S_) [(0, .ref (a 50)), (1, .int w1)] [] 6) (hK : ∀ (S_ : RS), K S_ → St x 0 0 (mW g a S_) [(0, .ref (a 50))] [] 27) (h : fX6_findLost_6b N S v1 R K Q) : St x 0 0 (mW g a S) [(0, .ref (a 50)), (1, .int v1)] [] 6 := by
  unfold fX6_findLost_6b at h
  refine r_iload_n C dX6_findLost_6 rfl ?_
  refine r_aload_n C dX6_findLost_7 rfl ?_
  refine r_get (cn := RX6) (T := TX6) (N := 43) (ci := 6) C uwX6_findLost_6 0 rfl rfl 17 (by decide) kwX6_findLost_0 (v := .int (S.1 17)) rfl dX6_findLost_8 ?_
  refine r_icmp_ge (tgt := 27) C dX6_findLost_11 (by decide) (fun c2 => ?_) (fun c2 => ?_)
  · have h := h.1 c2
    refine r_sub [0] (lv' := [(0, .ref (a 50))]) rfl ?_
    exact hK S h
  · have h := h.2 c2
    refine r_aload_n C dX6_findLost_14 rfl ?_
    refine r_get (cn := RX6) (T := TX6) (N := 43) (ci := 6) C uwX6_findLost_6 0 rfl rfl 20 (by decide) kwX6_findLost_2 (v := .ref (a 20)) rfl dX6_findLost_15 ?_
    refine r_iload_n C dX6_findLost_18 rfl ?_
    refine r_iconst (v := (-1)) C dX6_findLost_19 (by decide) ?_
    obtain ⟨hi3, h⟩ := h
    obtain ⟨S4, hS4⟩ : ∃ z : RS, z = sA S 20 (upd (S.2.1 20) v1.toNatClampNeg (-1)) := ⟨_, rfl⟩
    have h := h S4 hS4
    refine r_iast (ws' := mW g a S4) C 16 rfl hi3 dX6_findLost_20 (by rw [hS4]; rfl) ?_
    obtain ⟨x5, ex5⟩ : ∃ z : Int32, z = v1 + 1 := ⟨_, rfl⟩
    have h := h x5 ex5
    refine r_iinc (v := x5) (lv' := [(0, .ref (a 50)), (1, .int x5)]) C dX6_findLost_21 rfl (by rw [ex5]; rfl) [some 0, none] (by decide) rfl rfl ?_
    refine r_goto (tgt := 6) C dX6_findLost_24 (by decide) ?_
    exact hR x5 S4 h
def fX6_findLost_6 (N : Nat) (K : RS → Prop) (Q : RS → Prop) : Nat → Int32 → RS → Prop
  | 0, _, _ => False
  | n + 1, v1, S => fX6_findLost_6b N S v1 (fun v1 S => fX6_findLost_6 N K Q n v1 S) K Q
set_option maxRecDepth 100000 in
set_option maxHeartbeats 4000000 in
theorem wfX6_findLost_6 {x : Nx} {g : Gx} {W0 : va_W} {a : Nat → Nat}  {N : Nat} {K : RS → Prop} {Q : RS → Prop} (C : Cx x g cX6_findLost RX6 wsX6_findLost rmX6_findLost yX6_findLost none 4) (hZ : Zq x g W0 (fun u : RS => mW g a u) (qV (fun u : RS => Q u)) 0 0) (hK : ∀ (S_ : RS), K S_ → St x 0 0 (mW g a S_) [(0, .ref (a 50))] [] 27) : ∀ (n : Nat) (v1 : Int32) (S : RS), fX6_findLost_6 N K Q n v1 S → St x 0 0 (mW g a S) [(0, .ref (a 50)), (1, .int v1)] [] 6 := by
  intro n
  induction n with
  | zero => intro v1 S h; exact False.elim h
  | succ n ih => intro v1 S h; exact wfX6_findLost_6b C hZ ih hK h
def fX6_findLost_39b (N : Nat) (S : RS) (v1 : Int32) (v2 : Int32) (v3 : Int32) (R : Int32 → Int32 → RS → Prop) (K : Int32 → RS → Prop) (Q : RS → Prop) : Prop :=
  (((S.1 17) ≤ v3 → K v1 S) ∧ (¬ (S.1 17) ≤ v3 → (vp_in v3 1024 ∧ ((0 ≤ (S.2.1 20 v3.toNatClampNeg) → (∀ x11 : Int32, x11 = v3 + 1 → R v1 x11 S)) ∧ (¬ 0 ≤ (S.2.1 20 v3.toNatClampNeg) → (fX6_breakingIn N S v3 v2 (fun r12 => ((r12 < 0 → (∀ x14 : Int32, x14 = v3 + 1 → R v1 x14 S)) ∧ (¬ r12 < 0 → (vp_in v3 1024 ∧ (∀ S16 : RS, S16 = sA S 20 (upd (S.2.1 20) v3.toNatClampNeg v2) → (∀ x17 : Int32, x17 = v3 + 1 → R 1 x17 S16))))))))))))
set_option maxRecDepth 100000 in
set_option maxHeartbeats 4000000 in
theorem wfX6_findLost_39b {x : Nx} {g : Gx} {W0 : va_W} {a : Nat → Nat} {S : RS} {N : Nat} {v1 : Int32} {v2 : Int32} {v3 : Int32} {R : Int32 → Int32 → RS → Prop} {K : Int32 → RS → Prop} {Q : RS → Prop} (C : Cx x g cX6_findLost RX6 wsX6_findLost rmX6_findLost yX6_findLost none 4) (hZ : Zq x g W0 (fun u : RS => mW g a u) (qV (fun u : RS => Q u)) 0 0) (hR : ∀ (w1 : Int32) (w3 : Int32) (S_ : RS), R w1 w3 S_ → St x 0 0 (mW g a S_) [(0, .ref (a 50)), (1, .int w1), (2, .int v2), (3, .int w3)] [] 39) (hK : ∀ (w1 : Int32) (S_ : RS), K w1 S_ → St x 0 0 (mW g a S_) [(0, .ref (a 50)), (1, .int w1), (2, .int v2)] [] 80) (h : fX6_findLost_39b N S v1 v2 v3 R K Q) : St x 0 0 (mW g a S) [(0, .ref (a 50)), (1, .int v1), (2, .int v2), (3, .int v3)] [] 39 := by
  unfold fX6_findLost_39b at h
  refine r_iload_n C dX6_findLost_39 rfl ?_
  refine r_aload_n C dX6_findLost_40 rfl ?_
  refine r_get (cn := RX6) (T := TX6) (N := 43) (ci := 6) C uwX6_findLost_6 0 rfl rfl 17 (by decide) kwX6_findLost_0 (v := .int (S.1 17)) rfl dX6_findLost_41 ?_
  refine r_icmp_ge (tgt := 80) C dX6_findLost_44 (by decide) (fun c8 => ?_) (fun c8 => ?_)
  · have h := h.1 c8
    refine r_sub [0, 1, 2] (lv' := [(0, .ref (a 50)), (1, .int v1), (2, .int v2)]) rfl ?_
    exact hK v1 S h
  · have h := h.2 c8
    refine r_aload_n C dX6_findLost_47 rfl ?_
    refine r_get (cn := RX6) (T := TX6) (N := 43) (ci := 6) C uwX6_findLost_6 0 rfl rfl 20 (by decide) kwX6_findLost_2 (v := .ref (a 20)) rfl dX6_findLost_48 ?_
    refine r_iload_n C dX6_findLost_51 rfl ?_
    obtain ⟨hi9, h⟩ := h
    refine r_iald C 16 rfl hi9 dX6_findLost_52 ?_
    refine r_if_ge (tgt := 74) C dX6_findLost_53 (by decide) (fun c10 => ?_) (fun c10 => ?_)
    · have h := h.1 c10
      obtain ⟨x11, ex11⟩ : ∃ z : Int32, z = v3 + 1 := ⟨_, rfl⟩
      have h := h x11 ex11
      refine r_iinc (v := x11) (lv' := [(0, .ref (a 50)), (1, .int v1), (2, .int v2), (3, .int x11)]) C dX6_findLost_74 rfl (by rw [ex11]; rfl) [some 0, some 1, some 2, none] (by decide) rfl rfl ?_
      refine r_goto (tgt := 39) C dX6_findLost_77 (by decide) ?_
      exact hR v1 x11 S h
    · have h := h.2 c10
      refine r_aload_n C dX6_findLost_56 rfl ?_
      refine r_iload_n C dX6_findLost_57 rfl ?_
      refine r_iload_n C dX6_findLost_58 rfl ?_
      refine callR_I C (run_V (As := [.int v3, .int v2]) (rest := []) (ci := 6) C hZ.2.2 (tX6_breakingIn _ g a S N v3 v2 _ h) gX6_findLost_X6_breakingIn rfl dsX6_breakingIn rfl rfl ⟨(Nat.le_of_ble_eq_true rfl), (Nat.le_of_ble_eq_true rfl)⟩ rfl (List.mem_of_getElem? (i := 0) rfl) rfl (Nat.le_of_ble_eq_true rfl) dX6_findLost_59 ⟨Nat.zero_le _, Nat.zero_le _⟩) (List.Sublist.refl _) (fun _ => rfl) (fun r12 _ h => ?_)
      refine r_if_lt (tgt := 74) C dX6_findLost_62 (by decide) (fun c13 => ?_) (fun c13 => ?_)
      · have h := h.1 c13
        obtain ⟨x14, ex14⟩ : ∃ z : Int32, z = v3 + 1 := ⟨_, rfl⟩
        have h := h x14 ex14
        refine r_iinc (v := x14) (lv' := [(0, .ref (a 50)), (1, .int v1), (2, .int v2), (3, .int x14)]) C dX6_findLost_74 rfl (by rw [ex14]; rfl) [some 0, some 1, some 2, none] (by decide) rfl rfl ?_
        refine r_goto (tgt := 39) C dX6_findLost_77 (by decide) ?_
        exact hR v1 x14 S h
      · have h := h.2 c13
        refine r_aload_n C dX6_findLost_65 rfl ?_
        refine r_get (cn := RX6) (T := TX6) (N := 43) (ci := 6) C uwX6_findLost_6 0 rfl rfl 20 (by decide) kwX6_findLost_2 (v := .ref (a 20)) rfl dX6_findLost_66 ?_
        refine r_iload_n C dX6_findLost_69 rfl ?_
        refine r_iload_n C dX6_findLost_70 rfl ?_
        obtain ⟨hi15, h⟩ := h
        obtain ⟨S16, hS16⟩ : ∃ z : RS, z = sA S 20 (upd (S.2.1 20) v3.toNatClampNeg v2) := ⟨_, rfl⟩
        have h := h S16 hS16
        refine r_iast (ws' := mW g a S16) C 16 rfl hi15 dX6_findLost_71 (by rw [hS16]; rfl) ?_
        refine r_iconst (v := 1) C dX6_findLost_72 (by decide) ?_
        refine r_istore_n (lv' := [(0, .ref (a 50)), (1, .int 1), (2, .int v2), (3, .int v3)]) C dX6_findLost_73 [some 0, none, some 2, some 3] (by decide) rfl rfl ?_
        obtain ⟨x17, ex17⟩ : ∃ z : Int32, z = v3 + 1 := ⟨_, rfl⟩
        have h := h x17 ex17
        refine r_iinc (v := x17) (lv' := [(0, .ref (a 50)), (1, .int 1), (2, .int v2), (3, .int x17)]) C dX6_findLost_74 rfl (by rw [ex17]; rfl) [some 0, some 1, some 2, none] (by decide) rfl rfl ?_
        refine r_goto (tgt := 39) C dX6_findLost_77 (by decide) ?_
        exact hR 1 x17 S16 h
def fX6_findLost_39 (N : Nat) (v2 : Int32) (K : Int32 → RS → Prop) (Q : RS → Prop) : Nat → Int32 → Int32 → RS → Prop
  | 0, _, _, _ => False
  | n + 1, v1, v3, S => fX6_findLost_39b N S v1 v2 v3 (fun v1 v3 S => fX6_findLost_39 N v2 K Q n v1 v3 S) K Q
set_option maxRecDepth 100000 in
set_option maxHeartbeats 4000000 in
theorem wfX6_findLost_39 {x : Nx} {g : Gx} {W0 : va_W} {a : Nat → Nat}  {N : Nat} {v2 : Int32} {K : Int32 → RS → Prop} {Q : RS → Prop} (C : Cx x g cX6_findLost RX6 wsX6_findLost rmX6_findLost yX6_findLost none 4) (hZ : Zq x g W0 (fun u : RS => mW g a u) (qV (fun u : RS => Q u)) 0 0) (hK : ∀ (w1 : Int32) (S_ : RS), K w1 S_ → St x 0 0 (mW g a S_) [(0, .ref (a 50)), (1, .int w1), (2, .int v2)] [] 80) : ∀ (n : Nat) (v1 : Int32) (v3 : Int32) (S : RS), fX6_findLost_39 N v2 K Q n v1 v3 S → St x 0 0 (mW g a S) [(0, .ref (a 50)), (1, .int v1), (2, .int v2), (3, .int v3)] [] 39 := by
  intro n
  induction n with
  | zero => intro v1 v3 S h; exact False.elim h
  | succ n ih => intro v1 v3 S h; exact wfX6_findLost_39b C hZ ih hK h
def fX6_findLost_31b (N : Nat) (S : RS) (v1 : Int32) (v2 : Int32) (R : Int32 → Int32 → RS → Prop) (K : RS → Prop) (Q : RS → Prop) : Prop :=
  ((v1 = 0 → K S) ∧ (¬ v1 = 0 → (fX6_findLost_39 N v2 (fun x18 S19 => (∀ x20 : Int32, x20 = v2 + 1 → R x18 x20 S19)) Q N 0 0 S)))
set_option maxRecDepth 100000 in
set_option maxHeartbeats 4000000 in
theorem wfX6_findLost_31b {x : Nx} {g : Gx} {W0 : va_W} {a : Nat → Nat} {S : RS} {N : Nat} {v1 : Int32} {v2 : Int32} {R : Int32 → Int32 → RS → Prop} {K : RS → Prop} {Q : RS → Prop} (C : Cx x g cX6_findLost RX6 wsX6_findLost rmX6_findLost yX6_findLost none 4) (hZ : Zq x g W0 (fun u : RS => mW g a u) (qV (fun u : RS => Q u)) 0 0) (hR : ∀ (w1 : Int32) (w2 : Int32) (S_ : RS), R w1 w2 S_ → St x 0 0 (mW g a S_) [(0, .ref (a 50)), (1, .int w1), (2, .int w2)] [] 31) (hK : ∀ (S_ : RS), K S_ → St x 0 0 (mW g a S_) [] [] 86) (h : fX6_findLost_31b N S v1 v2 R K Q) : St x 0 0 (mW g a S) [(0, .ref (a 50)), (1, .int v1), (2, .int v2)] [] 31 := by
  unfold fX6_findLost_31b at h
  refine r_iload_n C dX6_findLost_31 rfl ?_
  refine r_if_eq (tgt := 86) C dX6_findLost_32 (by decide) (fun c7 => ?_) (fun c7 => ?_)
  · have h := h.1 c7
    refine r_sub [] (lv' := []) rfl ?_
    exact hK S h
  · have h := h.2 c7
    refine r_iconst (v := 0) C dX6_findLost_35 (by decide) ?_
    refine r_istore_n (lv' := [(0, .ref (a 50)), (1, .int 0), (2, .int v2)]) C dX6_findLost_36 [some 0, none, some 2] (by decide) rfl rfl ?_
    refine r_iconst (v := 0) C dX6_findLost_37 (by decide) ?_
    refine r_istore_n (lv' := [(0, .ref (a 50)), (1, .int 0), (2, .int v2), (3, .int 0)]) C dX6_findLost_38 [some 0, some 1, some 2, none] (by decide) rfl rfl ?_
    refine wfX6_findLost_39 C hZ (fun x18 S19 h => ?_) N _ _ _ h
    obtain ⟨x20, ex20⟩ : ∃ z : Int32, z = v2 + 1 := ⟨_, rfl⟩
    have h := h x20 ex20
    refine r_iinc (v := x20) (lv' := [(0, .ref (a 50)), (1, .int x18), (2, .int x20)]) C dX6_findLost_80 rfl (by rw [ex20]; rfl) [some 0, some 1, none] (by decide) rfl rfl ?_
    refine r_goto (tgt := 31) C dX6_findLost_83 (by decide) ?_
    exact hR x18 x20 S19 h
def fX6_findLost_31 (N : Nat) (K : RS → Prop) (Q : RS → Prop) : Nat → Int32 → Int32 → RS → Prop
  | 0, _, _, _ => False
  | n + 1, v1, v2, S => fX6_findLost_31b N S v1 v2 (fun v1 v2 S => fX6_findLost_31 N K Q n v1 v2 S) K Q
set_option maxRecDepth 100000 in
set_option maxHeartbeats 4000000 in
theorem wfX6_findLost_31 {x : Nx} {g : Gx} {W0 : va_W} {a : Nat → Nat}  {N : Nat} {K : RS → Prop} {Q : RS → Prop} (C : Cx x g cX6_findLost RX6 wsX6_findLost rmX6_findLost yX6_findLost none 4) (hZ : Zq x g W0 (fun u : RS => mW g a u) (qV (fun u : RS => Q u)) 0 0) (hK : ∀ (S_ : RS), K S_ → St x 0 0 (mW g a S_) [] [] 86) : ∀ (n : Nat) (v1 : Int32) (v2 : Int32) (S : RS), fX6_findLost_31 N K Q n v1 v2 S → St x 0 0 (mW g a S) [(0, .ref (a 50)), (1, .int v1), (2, .int v2)] [] 31 := by
  intro n
  induction n with
  | zero => intro v1 v2 S h; exact False.elim h
  | succ n ih => intro v1 v2 S h; exact wfX6_findLost_31b C hZ ih hK h
def fX6_findLost (N : Nat) (S : RS) (Q : RS → Prop) : Prop :=
  (fX6_findSteps N S (fun  S1 => (fX6_findLost_6 N (fun S6 => (fX6_findLost_31 N (fun S21 => Q S21) Q N 1 1 S6)) Q N 0 S1)))
set_option maxRecDepth 100000 in
set_option maxHeartbeats 4000000 in
theorem tX6_findLost (l : Launch) (g : Gx) (a : Nat → Nat) (S : RS) (N : Nat) (Q : RS → Prop) (h : fX6_findLost N S Q) : MetG l g yX6_findLost wsX6_findLost rmX6_findLost [.ref (a 50)] (mW g a S) (fun u : RS => mW g a u) (qV (fun u : RS => Q u)) 0 0 := by
  refine met_of (cc := cX6_findLost) (own := RX6) (nL := 4) (ret := none) (lv := [(0, .ref (a 50))]) (by decide) rfl rfl (Nat.le_of_ble_eq_true rfl) rfl ?_
  intro x C hl hZ
  subst hl
  unfold fX6_findLost at h
  refine r_aload_n C dX6_findLost_0 rfl ?_
  refine callW_V C (run_V (As := []) (rest := []) (ci := 6) C hZ.2.2 (tX6_findSteps _ g a S N _ h) gX6_findLost_X6_findSteps rfl dsX6_findSteps rfl rfl ⟨(Nat.le_of_ble_eq_true rfl), (Nat.le_of_ble_eq_true rfl)⟩ rfl (List.mem_of_getElem? (i := 0) rfl) rfl (Nat.le_of_ble_eq_true rfl) dX6_findLost_1 ⟨Nat.zero_le _, Nat.zero_le _⟩) (fun S1 h => ?_)
  show St x 0 0 (mW g a S1) _ _ 4
  refine r_iconst (v := 0) C dX6_findLost_4 (by decide) ?_
  refine r_istore_n (lv' := [(0, .ref (a 50)), (1, .int 0)]) C dX6_findLost_5 [some 0, none] (by decide) rfl rfl ?_
  refine wfX6_findLost_6 C hZ (fun S6 h => ?_) N _ _ h
  refine r_iconst (v := 1) C dX6_findLost_27 (by decide) ?_
  refine r_istore_n (lv' := [(0, .ref (a 50)), (1, .int 1)]) C dX6_findLost_28 [some 0, none] (by decide) rfl rfl ?_
  refine r_iconst (v := 1) C dX6_findLost_29 (by decide) ?_
  refine r_istore_n (lv' := [(0, .ref (a 50)), (1, .int 1), (2, .int 1)]) C dX6_findLost_30 [some 0, some 1, none] (by decide) rfl rfl ?_
  refine wfX6_findLost_31 C hZ (fun S21 h => ?_) N _ _ _ h
  exact r_vret C hZ (u := S21) h rfl dX6_findLost_86
def rmX6_loses : Room := { frames := 4, cells := 0, slots := 0, locals := 98 }
theorem kwX6_loses_0 : Cond.fieldLink RX6 57 "WantsBenchModel" "losesIn" "[I" ∈ wsX6_loses := by decide +kernel
theorem uwX6_loses_6 : ∀ w ∈ wsX60, w ∈ wsX6_loses := by decide +kernel
def fX6_loses (N : Nat) (S : RS) (v1 : Int32) (Q : Int32 → RS → Prop) : Prop :=
  (fX6_isSet N S v1 5 (fun r1 => ((¬ r1 = 0 → (fX6_takeSet N S v1 (fun  S3 => (fX6_findLost N S3 (fun  S4 => (vp_in 0 1024 ∧ ((0 ≤ (S4.2.1 20 (0 : Int32).toNatClampNeg) → (vp_in 0 1024 ∧ Q (S4.2.1 20 (0 : Int32).toNatClampNeg) S4)) ∧ (¬ 0 ≤ (S4.2.1 20 (0 : Int32).toNatClampNeg) → Q (-4) S4)))))))) ∧ (r1 = 0 → Q (-1) S))))
set_option maxRecDepth 100000 in
set_option maxHeartbeats 4000000 in
theorem tX6_loses (l : Launch) (g : Gx) (a : Nat → Nat) (S : RS) (N : Nat) (v1 : Int32) (Q : Int32 → RS → Prop) (h : fX6_loses N S v1 Q) : MetG l g yX6_loses wsX6_loses rmX6_loses [.ref (a 50), .int v1] (mW g a S) (fun u : RS => mW g a u) (qI (fun (r : Int32) (u : RS) => Q r u)) 0 0 := by
  refine met_of (cc := cX6_loses) (own := RX6) (nL := 2) (ret := (some .int)) (lv := [(0, .ref (a 50)), (1, .int v1)]) (by decide) rfl rfl (Nat.le_of_ble_eq_true rfl) rfl ?_
  intro x C hl hZ
  subst hl
  unfold fX6_loses at h
  refine r_aload_n C dX6_loses_0 rfl ?_
  refine r_iload_n C dX6_loses_1 rfl ?_
  refine r_iconst (v := 5) C dX6_loses_2 (by decide) ?_
  refine callR_I C (run_V (As := [.int v1, .int 5]) (rest := []) (ci := 6) C hZ.2.2 (tX6_isSet _ g a S N v1 5 _ h) gX6_loses_X6_isSet rfl dsX6_isSet rfl rfl ⟨(Nat.le_of_ble_eq_true rfl), (Nat.le_of_ble_eq_true rfl)⟩ rfl (List.mem_of_getElem? (i := 0) rfl) rfl (Nat.le_of_ble_eq_true rfl) dX6_loses_3 ⟨Nat.zero_le _, Nat.zero_le _⟩) (List.Sublist.refl _) (fun _ => rfl) (fun r1 _ h => ?_)
  refine r_if_ne (tgt := 11) C dX6_loses_6 (by decide) (fun c2 => ?_) (fun c2 => ?_)
  · have h := h.1 c2
    refine r_aload_n C dX6_loses_11 rfl ?_
    refine r_iload_n C dX6_loses_12 rfl ?_
    refine callW_V C (run_V (As := [.int v1]) (rest := []) (ci := 6) C hZ.2.2 (tX6_takeSet _ g a S N v1 _ h) gX6_loses_X6_takeSet rfl dsX6_takeSet rfl rfl ⟨(Nat.le_of_ble_eq_true rfl), (Nat.le_of_ble_eq_true rfl)⟩ rfl (List.mem_of_getElem? (i := 0) rfl) rfl (Nat.le_of_ble_eq_true rfl) dX6_loses_13 ⟨Nat.zero_le _, Nat.zero_le _⟩) (fun S3 h => ?_)
    show St x 0 0 (mW g a S3) _ _ 16
    refine r_aload_n C dX6_loses_16 rfl ?_
    refine callW_V C (run_V (As := []) (rest := []) (ci := 6) C hZ.2.2 (tX6_findLost _ g a S3 N _ h) gX6_loses_X6_findLost rfl dsX6_findLost rfl rfl ⟨(Nat.le_of_ble_eq_true rfl), (Nat.le_of_ble_eq_true rfl)⟩ rfl (List.mem_of_getElem? (i := 0) rfl) rfl (Nat.le_of_ble_eq_true rfl) dX6_loses_17 ⟨Nat.zero_le _, Nat.zero_le _⟩) (fun S4 h => ?_)
    show St x 0 0 (mW g a S4) _ _ 20
    refine r_aload_n C dX6_loses_20 rfl ?_
    refine r_get (cn := RX6) (T := TX6) (N := 43) (ci := 6) C uwX6_loses_6 0 rfl rfl 20 (by decide) kwX6_loses_0 (v := .ref (a 20)) rfl dX6_loses_21 ?_
    refine r_iconst (v := 0) C dX6_loses_24 (by decide) ?_
    obtain ⟨hi5, h⟩ := h
    refine r_iald C 16 rfl hi5 dX6_loses_25 ?_
    refine r_if_ge (tgt := 34) C dX6_loses_26 (by decide) (fun c6 => ?_) (fun c6 => ?_)
    · have h := h.1 c6
      refine r_aload_n C dX6_loses_34 rfl ?_
      refine r_get (cn := RX6) (T := TX6) (N := 43) (ci := 6) C uwX6_loses_6 0 rfl rfl 20 (by decide) kwX6_loses_0 (v := .ref (a 20)) rfl dX6_loses_35 ?_
      refine r_iconst (v := 0) C dX6_loses_38 (by decide) ?_
      obtain ⟨hi7, h⟩ := h
      refine r_iald C 16 rfl hi7 dX6_loses_39 ?_
      exact r_iret C hZ (u := S4) h rfl dX6_loses_40
    · have h := h.2 c6
      refine r_bipush (v := (-4)) C dX6_loses_29 (by decide) ?_
      refine r_goto (tgt := 40) C dX6_loses_31 (by decide) ?_
      exact r_iret C hZ (u := S4) h rfl dX6_loses_40
  · have h := h.2 c2
    refine r_iconst (v := (-1)) C dX6_loses_9 (by decide) ?_
    exact r_iret C hZ (u := S) h rfl dX6_loses_10
def rmX6_world : Room := { frames := 4, cells := 0, slots := 0, locals := 98 }
theorem kwX6_world_0 : Cond.fieldLink RX6 57 "WantsBenchModel" "losesIn" "[I" ∈ wsX6_world := by decide +kernel
theorem uwX6_world_6 : ∀ w ∈ wsX60, w ∈ wsX6_world := by decide +kernel
def fX6_world (N : Nat) (S : RS) (v1 : Int32) (Q : Int32 → RS → Prop) : Prop :=
  (fX6_isSet N S v1 5 (fun r1 => ((¬ r1 = 0 → (fX6_takeSet N S v1 (fun  S3 => (fX6_findLost N S3 (fun  S4 => (vp_in 0 1024 ∧ ((0 ≤ (S4.2.1 20 (0 : Int32).toNatClampNeg) → (vp_in 0 1024 ∧ (fX6_breakingIn N S4 0 (S4.2.1 20 (0 : Int32).toNatClampNeg) (fun r8 => Q r8 S4)))) ∧ (¬ 0 ≤ (S4.2.1 20 (0 : Int32).toNatClampNeg) → Q (-4) S4)))))))) ∧ (r1 = 0 → Q (-1) S))))
set_option maxRecDepth 100000 in
set_option maxHeartbeats 4000000 in
theorem tX6_world (l : Launch) (g : Gx) (a : Nat → Nat) (S : RS) (N : Nat) (v1 : Int32) (Q : Int32 → RS → Prop) (h : fX6_world N S v1 Q) : MetG l g yX6_world wsX6_world rmX6_world [.ref (a 50), .int v1] (mW g a S) (fun u : RS => mW g a u) (qI (fun (r : Int32) (u : RS) => Q r u)) 0 0 := by
  refine met_of (cc := cX6_world) (own := RX6) (nL := 2) (ret := (some .int)) (lv := [(0, .ref (a 50)), (1, .int v1)]) (by decide) rfl rfl (Nat.le_of_ble_eq_true rfl) rfl ?_
  intro x C hl hZ
  subst hl
  unfold fX6_world at h
  refine r_aload_n C dX6_world_0 rfl ?_
  refine r_iload_n C dX6_world_1 rfl ?_
  refine r_iconst (v := 5) C dX6_world_2 (by decide) ?_
  refine callR_I C (run_V (As := [.int v1, .int 5]) (rest := []) (ci := 6) C hZ.2.2 (tX6_isSet _ g a S N v1 5 _ h) gX6_world_X6_isSet rfl dsX6_isSet rfl rfl ⟨(Nat.le_of_ble_eq_true rfl), (Nat.le_of_ble_eq_true rfl)⟩ rfl (List.mem_of_getElem? (i := 0) rfl) rfl (Nat.le_of_ble_eq_true rfl) dX6_world_3 ⟨Nat.zero_le _, Nat.zero_le _⟩) (List.Sublist.refl _) (fun _ => rfl) (fun r1 _ h => ?_)
  refine r_if_ne (tgt := 11) C dX6_world_6 (by decide) (fun c2 => ?_) (fun c2 => ?_)
  · have h := h.1 c2
    refine r_aload_n C dX6_world_11 rfl ?_
    refine r_iload_n C dX6_world_12 rfl ?_
    refine callW_V C (run_V (As := [.int v1]) (rest := []) (ci := 6) C hZ.2.2 (tX6_takeSet _ g a S N v1 _ h) gX6_world_X6_takeSet rfl dsX6_takeSet rfl rfl ⟨(Nat.le_of_ble_eq_true rfl), (Nat.le_of_ble_eq_true rfl)⟩ rfl (List.mem_of_getElem? (i := 0) rfl) rfl (Nat.le_of_ble_eq_true rfl) dX6_world_13 ⟨Nat.zero_le _, Nat.zero_le _⟩) (fun S3 h => ?_)
    show St x 0 0 (mW g a S3) _ _ 16
    refine r_aload_n C dX6_world_16 rfl ?_
    refine callW_V C (run_V (As := []) (rest := []) (ci := 6) C hZ.2.2 (tX6_findLost _ g a S3 N _ h) gX6_world_X6_findLost rfl dsX6_findLost rfl rfl ⟨(Nat.le_of_ble_eq_true rfl), (Nat.le_of_ble_eq_true rfl)⟩ rfl (List.mem_of_getElem? (i := 0) rfl) rfl (Nat.le_of_ble_eq_true rfl) dX6_world_17 ⟨Nat.zero_le _, Nat.zero_le _⟩) (fun S4 h => ?_)
    show St x 0 0 (mW g a S4) _ _ 20
    refine r_aload_n C dX6_world_20 rfl ?_
    refine r_get (cn := RX6) (T := TX6) (N := 43) (ci := 6) C uwX6_world_6 0 rfl rfl 20 (by decide) kwX6_world_0 (v := .ref (a 20)) rfl dX6_world_21 ?_
    refine r_iconst (v := 0) C dX6_world_24 (by decide) ?_
    obtain ⟨hi5, h⟩ := h
    refine r_iald C 16 rfl hi5 dX6_world_25 ?_
    refine r_if_ge (tgt := 34) C dX6_world_26 (by decide) (fun c6 => ?_) (fun c6 => ?_)
    · have h := h.1 c6
      refine r_aload_n C dX6_world_34 rfl ?_
      refine r_iconst (v := 0) C dX6_world_35 (by decide) ?_
      refine r_aload_n C dX6_world_36 rfl ?_
      refine r_get (cn := RX6) (T := TX6) (N := 43) (ci := 6) C uwX6_world_6 0 rfl rfl 20 (by decide) kwX6_world_0 (v := .ref (a 20)) rfl dX6_world_37 ?_
      refine r_iconst (v := 0) C dX6_world_40 (by decide) ?_
      obtain ⟨hi7, h⟩ := h
      refine r_iald C 16 rfl hi7 dX6_world_41 ?_
      refine callR_I C (run_V (As := [.int 0, .int (S4.2.1 20 (0 : Int32).toNatClampNeg)]) (rest := []) (ci := 6) C hZ.2.2 (tX6_breakingIn _ g a S4 N 0 (S4.2.1 20 (0 : Int32).toNatClampNeg) _ h) gX6_world_X6_breakingIn rfl dsX6_breakingIn rfl rfl ⟨(Nat.le_of_ble_eq_true rfl), (Nat.le_of_ble_eq_true rfl)⟩ rfl (List.mem_of_getElem? (i := 0) rfl) rfl (Nat.le_of_ble_eq_true rfl) dX6_world_42 ⟨Nat.zero_le _, Nat.zero_le _⟩) (List.Sublist.refl _) (fun _ => rfl) (fun r8 _ h => ?_)
      exact r_iret C hZ (u := S4) h rfl dX6_world_45
    · have h := h.2 c6
      refine r_bipush (v := (-4)) C dX6_world_29 (by decide) ?_
      refine r_goto (tgt := 45) C dX6_world_31 (by decide) ?_
      exact r_iret C hZ (u := S4) h rfl dX6_world_45
  · have h := h.2 c2
    refine r_iconst (v := (-1)) C dX6_world_9 (by decide) ?_
    exact r_iret C hZ (u := S) h rfl dX6_world_10
def rmX6_comesAhead : Room := { frames := 1, cells := 0, slots := 0, locals := 22 }
def fX6_comesAhead (N : Nat) (v0 : Int32) (v1 : Int32) (Q : Int32 → Prop) : Prop :=
  (fX6_countBits N v0 (fun r1 => (fX6_countBits N v1 (fun r2 => ((r1 = r2 → (∀ x4 : Int32, x4 = v0 ^^^ v1 → ((x4 = 0 → Q 0) ∧ (¬ x4 = 0 → (((v0 &&& (x4 &&& (-x4))) = 0 → Q 0) ∧ (¬ (v0 &&& (x4 &&& (-x4))) = 0 → Q 1)))))) ∧ (¬ r1 = r2 → ((r2 ≤ r1 → Q 0) ∧ (¬ r2 ≤ r1 → Q 1))))))))
set_option maxRecDepth 100000 in
set_option maxHeartbeats 4000000 in
theorem tX6_comesAhead (l : Launch) (g : Gx) (N : Nat) (v0 : Int32) (v1 : Int32) (Q : Int32 → Prop) (h : fX6_comesAhead N v0 v1 Q) : MetG l g yX6_comesAhead wsX6_comesAhead rmX6_comesAhead [.int v0, .int v1] (([] : va_W)) (fun _ : Unit => ([] : va_W)) (qI (fun (r : Int32) (_ : Unit) => Q r)) 0 0 := by
  refine met_of (cc := cX6_comesAhead) (own := RX6) (nL := 5) (ret := (some .boolean)) (lv := [(0, .int v0), (1, .int v1)]) (by decide) rfl rfl (Nat.le_of_ble_eq_true rfl) rfl ?_
  intro x C hl hZ
  subst hl
  unfold fX6_comesAhead at h
  refine r_iload_n C dX6_comesAhead_0 rfl ?_
  refine callR_I C (run_S (As := [.int v0]) (rest := []) C hZ.2.2 (tX6_countBits _ g N v0 _ h) gX6_comesAhead_X6_countBits rfl dsX6_countBits rfl rfl ⟨(Nat.le_of_ble_eq_true rfl), (Nat.le_of_ble_eq_true rfl)⟩ rfl (Nat.le_of_ble_eq_true rfl) dX6_comesAhead_1 ⟨Nat.zero_le _, Nat.zero_le _⟩) (List.nil_sublist _) (fun _ => rfl) (fun r1 _ h => ?_)
  refine r_istore_n (lv' := [(0, .int v0), (1, .int v1), (2, .int r1)]) C dX6_comesAhead_4 [some 0, some 1, none] (by decide) rfl rfl ?_
  refine r_iload_n C dX6_comesAhead_5 rfl ?_
  refine callR_I C (run_S (As := [.int v1]) (rest := []) C hZ.2.2 (tX6_countBits _ g N v1 _ h) gX6_comesAhead_X6_countBits rfl dsX6_countBits rfl rfl ⟨(Nat.le_of_ble_eq_true rfl), (Nat.le_of_ble_eq_true rfl)⟩ rfl (Nat.le_of_ble_eq_true rfl) dX6_comesAhead_6 ⟨Nat.zero_le _, Nat.zero_le _⟩) (List.nil_sublist _) (fun _ => rfl) (fun r2 _ h => ?_)
  refine r_istore_n (lv' := [(0, .int v0), (1, .int v1), (2, .int r1), (3, .int r2)]) C dX6_comesAhead_9 [some 0, some 1, some 2, none] (by decide) rfl rfl ?_
  refine r_iload_n C dX6_comesAhead_10 rfl ?_
  refine r_iload_n C dX6_comesAhead_11 rfl ?_
  refine r_icmp_eq (tgt := 26) C dX6_comesAhead_12 (by decide) (fun c3 => ?_) (fun c3 => ?_)
  · have h := h.1 c3
    refine r_iload_n C dX6_comesAhead_26 rfl ?_
    refine r_iload_n C dX6_comesAhead_27 rfl ?_
    refine r_ixor C dX6_comesAhead_28 ?_
    refine r_topi (fun x4 ex4 => ?_)
    have h := h x4 ex4
    refine r_istore (lv' := [(0, .int v0), (4, .int x4)]) C dX6_comesAhead_29 [some 0, none] (by decide) rfl rfl ?_
    refine r_iload C dX6_comesAhead_31 rfl ?_
    refine r_if_eq (tgt := 51) C dX6_comesAhead_33 (by decide) (fun c5 => ?_) (fun c5 => ?_)
    · have h := h.1 c5
      refine r_iconst (v := 0) C dX6_comesAhead_51 (by decide) ?_
      exact r_zret C hZ (u := ()) (by decide) h rfl dX6_comesAhead_52
    · have h := h.2 c5
      refine r_iload_n C dX6_comesAhead_36 rfl ?_
      refine r_iload C dX6_comesAhead_37 rfl ?_
      refine r_iload C dX6_comesAhead_39 rfl ?_
      refine r_ineg C dX6_comesAhead_41 ?_
      refine r_iand C dX6_comesAhead_42 ?_
      refine r_iand C dX6_comesAhead_43 ?_
      refine r_if_eq (tgt := 51) C dX6_comesAhead_44 (by decide) (fun c6 => ?_) (fun c6 => ?_)
      · have h := h.1 c6
        refine r_iconst (v := 0) C dX6_comesAhead_51 (by decide) ?_
        exact r_zret C hZ (u := ()) (by decide) h rfl dX6_comesAhead_52
      · have h := h.2 c6
        refine r_iconst (v := 1) C dX6_comesAhead_47 (by decide) ?_
        refine r_goto (tgt := 52) C dX6_comesAhead_48 (by decide) ?_
        exact r_zret C hZ (u := ()) (by decide) h rfl dX6_comesAhead_52
  · have h := h.2 c3
    refine r_iload_n C dX6_comesAhead_15 rfl ?_
    refine r_iload_n C dX6_comesAhead_16 rfl ?_
    refine r_icmp_ge (tgt := 24) C dX6_comesAhead_17 (by decide) (fun c7 => ?_) (fun c7 => ?_)
    · have h := h.1 c7
      refine r_iconst (v := 0) C dX6_comesAhead_24 (by decide) ?_
      exact r_zret C hZ (u := ()) (by decide) h rfl dX6_comesAhead_25
    · have h := h.2 c7
      refine r_iconst (v := 1) C dX6_comesAhead_20 (by decide) ?_
      refine r_goto (tgt := 25) C dX6_comesAhead_21 (by decide) ?_
      exact r_zret C hZ (u := ()) (by decide) h rfl dX6_comesAhead_25
def rmX6_quarrel : Room := { frames := 4, cells := 0, slots := 0, locals := 95 }
def fX6_quarrel_42 (N : Nat) (S : RS) (v1 : Int32) (v2 : Int32) (v3 : Int32) (R : Int32 → Int32 → RS → Prop) (K : Int32 → RS → Prop) (Q : Int32 → RS → Prop) : Prop :=
  (∀ x8 : Int32, x8 = (v3 - (1 : Int32)) &&& v1 → R v2 x8 S)
set_option maxRecDepth 100000 in
set_option maxHeartbeats 4000000 in
theorem wfX6_quarrel_42 {x : Nx} {g : Gx} {W0 : va_W} {a : Nat → Nat} {S : RS} {N : Nat} {v1 : Int32} {v2 : Int32} {v3 : Int32} {R : Int32 → Int32 → RS → Prop} {K : Int32 → RS → Prop} {Q : Int32 → RS → Prop} (C : Cx x g cX6_quarrel RX6 wsX6_quarrel rmX6_quarrel yX6_quarrel (some .int) 4) (hZ : Zq x g W0 (fun u : RS => mW g a u) (qI (fun (r : Int32) (u : RS) => Q r u)) 0 0) (hR : ∀ (w2 : Int32) (w3 : Int32) (S_ : RS), R w2 w3 S_ → St x 0 0 (mW g a S_) [(0, .ref (a 50)), (1, .int v1), (2, .int w2), (3, .int w3)] [] 16) (hK : ∀ (w2 : Int32) (S_ : RS), K w2 S_ → St x 0 0 (mW g a S_) [(2, .int w2)] [] 51) (h : fX6_quarrel_42 N S v1 v2 v3 R K Q) : St x 0 0 (mW g a S) [(0, .ref (a 50)), (1, .int v1), (2, .int v2), (3, .int v3)] [] 42 := by
  unfold fX6_quarrel_42 at h
  refine r_iload_n C dX6_quarrel_42 rfl ?_
  refine r_iconst (v := 1) C dX6_quarrel_43 (by decide) ?_
  refine r_isub C dX6_quarrel_44 ?_
  refine r_iload_n C dX6_quarrel_45 rfl ?_
  refine r_iand C dX6_quarrel_46 ?_
  refine r_topi (fun x8 ex8 => ?_)
  have h := h x8 ex8
  refine r_istore_n (lv' := [(0, .ref (a 50)), (1, .int v1), (2, .int v2), (3, .int x8)]) C dX6_quarrel_47 [some 0, some 1, some 2, none] (by decide) rfl rfl ?_
  refine r_goto (tgt := 16) C dX6_quarrel_48 (by decide) ?_
  exact hR v2 x8 S h
def fX6_quarrel_32 (N : Nat) (S : RS) (v1 : Int32) (v2 : Int32) (v3 : Int32) (R : Int32 → Int32 → RS → Prop) (K : Int32 → RS → Prop) (Q : Int32 → RS → Prop) : Prop :=
  (fX6_can N S v3 (fun r5 S6 => ((¬ r5 = 0 → (fX6_quarrel_42 N S6 v1 v2 v3 R K Q)) ∧ (r5 = 0 → (fX6_quarrel_42 N S6 v1 v3 v3 R K Q)))))
set_option maxRecDepth 100000 in
set_option maxHeartbeats 4000000 in
theorem wfX6_quarrel_32 {x : Nx} {g : Gx} {W0 : va_W} {a : Nat → Nat} {S : RS} {N : Nat} {v1 : Int32} {v2 : Int32} {v3 : Int32} {R : Int32 → Int32 → RS → Prop} {K : Int32 → RS → Prop} {Q : Int32 → RS → Prop} (C : Cx x g cX6_quarrel RX6 wsX6_quarrel rmX6_quarrel yX6_quarrel (some .int) 4) (hZ : Zq x g W0 (fun u : RS => mW g a u) (qI (fun (r : Int32) (u : RS) => Q r u)) 0 0) (hR : ∀ (w2 : Int32) (w3 : Int32) (S_ : RS), R w2 w3 S_ → St x 0 0 (mW g a S_) [(0, .ref (a 50)), (1, .int v1), (2, .int w2), (3, .int w3)] [] 16) (hK : ∀ (w2 : Int32) (S_ : RS), K w2 S_ → St x 0 0 (mW g a S_) [(2, .int w2)] [] 51) (h : fX6_quarrel_32 N S v1 v2 v3 R K Q) : St x 0 0 (mW g a S) [(0, .ref (a 50)), (1, .int v1), (2, .int v2), (3, .int v3)] [] 32 := by
  unfold fX6_quarrel_32 at h
  refine r_aload_n C dX6_quarrel_32 rfl ?_
  refine r_iload_n C dX6_quarrel_33 rfl ?_
  refine callW_I C (run_V (As := [.int v3]) (rest := []) (ci := 6) C hZ.2.2 (tX6_can _ g a S N v3 _ h) gX6_quarrel_X6_can rfl dsX6_can rfl rfl ⟨(Nat.le_of_ble_eq_true rfl), (Nat.le_of_ble_eq_true rfl)⟩ rfl (List.mem_of_getElem? (i := 0) rfl) rfl (Nat.le_of_ble_eq_true rfl) dX6_quarrel_34 ⟨Nat.zero_le _, Nat.zero_le _⟩) (fun r5 S6 h => ?_)
  show St x 0 0 (mW g a S6) _ _ 37
  refine r_if_ne (tgt := 42) C dX6_quarrel_37 (by decide) (fun c7 => ?_) (fun c7 => ?_)
  · have h := h.1 c7
    exact wfX6_quarrel_42 C hZ hR hK h
  · have h := h.2 c7
    refine r_iload_n C dX6_quarrel_40 rfl ?_
    refine r_istore_n (lv' := [(0, .ref (a 50)), (1, .int v1), (2, .int v3), (3, .int v3)]) C dX6_quarrel_41 [some 0, some 1, none, some 3] (by decide) rfl rfl ?_
    exact wfX6_quarrel_42 C hZ hR hK h
def fX6_quarrel_16b (N : Nat) (S : RS) (v1 : Int32) (v2 : Int32) (v3 : Int32) (R : Int32 → Int32 → RS → Prop) (K : Int32 → RS → Prop) (Q : Int32 → RS → Prop) : Prop :=
  ((v3 ≤ 0 → K v2 S) ∧ (¬ v3 ≤ 0 → ((v2 < 0 → (fX6_quarrel_32 N S v1 v2 v3 R K Q)) ∧ (¬ v2 < 0 → (fX6_comesAhead N v3 v2 (fun r9 => ((r9 = 0 → (fX6_quarrel_42 N S v1 v2 v3 R K Q)) ∧ (¬ r9 = 0 → (fX6_quarrel_32 N S v1 v2 v3 R K Q)))))))))
set_option maxRecDepth 100000 in
set_option maxHeartbeats 4000000 in
theorem wfX6_quarrel_16b {x : Nx} {g : Gx} {W0 : va_W} {a : Nat → Nat} {S : RS} {N : Nat} {v1 : Int32} {v2 : Int32} {v3 : Int32} {R : Int32 → Int32 → RS → Prop} {K : Int32 → RS → Prop} {Q : Int32 → RS → Prop} (C : Cx x g cX6_quarrel RX6 wsX6_quarrel rmX6_quarrel yX6_quarrel (some .int) 4) (hZ : Zq x g W0 (fun u : RS => mW g a u) (qI (fun (r : Int32) (u : RS) => Q r u)) 0 0) (hR : ∀ (w2 : Int32) (w3 : Int32) (S_ : RS), R w2 w3 S_ → St x 0 0 (mW g a S_) [(0, .ref (a 50)), (1, .int v1), (2, .int w2), (3, .int w3)] [] 16) (hK : ∀ (w2 : Int32) (S_ : RS), K w2 S_ → St x 0 0 (mW g a S_) [(2, .int w2)] [] 51) (h : fX6_quarrel_16b N S v1 v2 v3 R K Q) : St x 0 0 (mW g a S) [(0, .ref (a 50)), (1, .int v1), (2, .int v2), (3, .int v3)] [] 16 := by
  unfold fX6_quarrel_16b at h
  refine r_iload_n C dX6_quarrel_16 rfl ?_
  refine r_if_le (tgt := 51) C dX6_quarrel_17 (by decide) (fun c3 => ?_) (fun c3 => ?_)
  · have h := h.1 c3
    refine r_sub [2] (lv' := [(2, .int v2)]) rfl ?_
    exact hK v2 S h
  · have h := h.2 c3
    refine r_iload_n C dX6_quarrel_20 rfl ?_
    refine r_if_lt (tgt := 32) C dX6_quarrel_21 (by decide) (fun c4 => ?_) (fun c4 => ?_)
    · have h := h.1 c4
      exact wfX6_quarrel_32 C hZ hR hK h
    · have h := h.2 c4
      refine r_iload_n C dX6_quarrel_24 rfl ?_
      refine r_iload_n C dX6_quarrel_25 rfl ?_
      refine callR_I C (run_S (As := [.int v3, .int v2]) (rest := []) C hZ.2.2 (tX6_comesAhead _ g N v3 v2 _ h) gX6_quarrel_X6_comesAhead rfl dsX6_comesAhead rfl rfl ⟨(Nat.le_of_ble_eq_true rfl), (Nat.le_of_ble_eq_true rfl)⟩ rfl (Nat.le_of_ble_eq_true rfl) dX6_quarrel_26 ⟨Nat.zero_le _, Nat.zero_le _⟩) (List.nil_sublist _) (fun _ => rfl) (fun r9 _ h => ?_)
      refine r_if_eq (tgt := 42) C dX6_quarrel_29 (by decide) (fun c10 => ?_) (fun c10 => ?_)
      · have h := h.1 c10
        exact wfX6_quarrel_42 C hZ hR hK h
      · have h := h.2 c10
        exact wfX6_quarrel_32 C hZ hR hK h
def fX6_quarrel_16 (N : Nat) (v1 : Int32) (K : Int32 → RS → Prop) (Q : Int32 → RS → Prop) : Nat → Int32 → Int32 → RS → Prop
  | 0, _, _, _ => False
  | n + 1, v2, v3, S => fX6_quarrel_16b N S v1 v2 v3 (fun v2 v3 S => fX6_quarrel_16 N v1 K Q n v2 v3 S) K Q
set_option maxRecDepth 100000 in
set_option maxHeartbeats 4000000 in
theorem wfX6_quarrel_16 {x : Nx} {g : Gx} {W0 : va_W} {a : Nat → Nat}  {N : Nat} {v1 : Int32} {K : Int32 → RS → Prop} {Q : Int32 → RS → Prop} (C : Cx x g cX6_quarrel RX6 wsX6_quarrel rmX6_quarrel yX6_quarrel (some .int) 4) (hZ : Zq x g W0 (fun u : RS => mW g a u) (qI (fun (r : Int32) (u : RS) => Q r u)) 0 0) (hK : ∀ (w2 : Int32) (S_ : RS), K w2 S_ → St x 0 0 (mW g a S_) [(2, .int w2)] [] 51) : ∀ (n : Nat) (v2 : Int32) (v3 : Int32) (S : RS), fX6_quarrel_16 N v1 K Q n v2 v3 S → St x 0 0 (mW g a S) [(0, .ref (a 50)), (1, .int v1), (2, .int v2), (3, .int v3)] [] 16 := by
  intro n
  induction n with
  | zero => intro v2 v3 S h; exact False.elim h
  | succ n ih => intro v2 v3 S h; exact wfX6_quarrel_16b C hZ ih hK h
def fX6_quarrel (N : Nat) (S : RS) (v1 : Int32) (Q : Int32 → RS → Prop) : Prop :=
  (fX6_isSet N S v1 5 (fun r1 => ((¬ r1 = 0 → (fX6_quarrel_16 N v1 (fun x11 S12 => Q x11 S12) Q N (-4) v1 S)) ∧ (r1 = 0 → Q (-1) S))))
set_option maxRecDepth 100000 in
set_option maxHeartbeats 4000000 in
theorem tX6_quarrel (l : Launch) (g : Gx) (a : Nat → Nat) (S : RS) (N : Nat) (v1 : Int32) (Q : Int32 → RS → Prop) (h : fX6_quarrel N S v1 Q) : MetG l g yX6_quarrel wsX6_quarrel rmX6_quarrel [.ref (a 50), .int v1] (mW g a S) (fun u : RS => mW g a u) (qI (fun (r : Int32) (u : RS) => Q r u)) 0 0 := by
  refine met_of (cc := cX6_quarrel) (own := RX6) (nL := 4) (ret := (some .int)) (lv := [(0, .ref (a 50)), (1, .int v1)]) (by decide) rfl rfl (Nat.le_of_ble_eq_true rfl) rfl ?_
  intro x C hl hZ
  subst hl
  unfold fX6_quarrel at h
  refine r_aload_n C dX6_quarrel_0 rfl ?_
  refine r_iload_n C dX6_quarrel_1 rfl ?_
  refine r_iconst (v := 5) C dX6_quarrel_2 (by decide) ?_
  refine callR_I C (run_V (As := [.int v1, .int 5]) (rest := []) (ci := 6) C hZ.2.2 (tX6_isSet _ g a S N v1 5 _ h) gX6_quarrel_X6_isSet rfl dsX6_isSet rfl rfl ⟨(Nat.le_of_ble_eq_true rfl), (Nat.le_of_ble_eq_true rfl)⟩ rfl (List.mem_of_getElem? (i := 0) rfl) rfl (Nat.le_of_ble_eq_true rfl) dX6_quarrel_3 ⟨Nat.zero_le _, Nat.zero_le _⟩) (List.Sublist.refl _) (fun _ => rfl) (fun r1 _ h => ?_)
  refine r_if_ne (tgt := 11) C dX6_quarrel_6 (by decide) (fun c2 => ?_) (fun c2 => ?_)
  · have h := h.1 c2
    refine r_bipush (v := (-4)) C dX6_quarrel_11 (by decide) ?_
    refine r_istore_n (lv' := [(0, .ref (a 50)), (1, .int v1), (2, .int (-4))]) C dX6_quarrel_13 [some 0, some 1, none] (by decide) rfl rfl ?_
    refine r_iload_n C dX6_quarrel_14 rfl ?_
    refine r_istore_n (lv' := [(0, .ref (a 50)), (1, .int v1), (2, .int (-4)), (3, .int v1)]) C dX6_quarrel_15 [some 0, some 1, some 2, none] (by decide) rfl rfl ?_
    refine wfX6_quarrel_16 C hZ (fun x11 S12 h => ?_) N _ _ _ h
    refine r_iload_n C dX6_quarrel_51 rfl ?_
    exact r_iret C hZ (u := S12) h rfl dX6_quarrel_52
  · have h := h.2 c2
    refine r_iconst (v := (-1)) C dX6_quarrel_9 (by decide) ?_
    exact r_iret C hZ (u := S) h rfl dX6_quarrel_10
def rmX6_follows : Room := { frames := 2, cells := 0, slots := 0, locals := 50 }
theorem kwX6_follows_0 : Cond.fieldLink RX6 16 "WantsBenchModel" "number" "[I" ∈ wsX6_follows := by decide +kernel
theorem uwX6_follows_6 : ∀ w ∈ wsX60, w ∈ wsX6_follows := by decide +kernel
theorem kwX6_follows_2 : Cond.fieldLink RX6 149 "WantsBenchModel" "many" "I" ∈ wsX6_follows := by decide +kernel
theorem kwX6_follows_3 : Cond.fieldLink RX6 156 "WantsBenchModel" "positions" "I" ∈ wsX6_follows := by decide +kernel
theorem kwX6_follows_4 : Cond.fieldLink RX6 81 "WantsBenchModel" "isCome" "[Z" ∈ wsX6_follows := by decide +kernel
theorem kwX6_follows_5 : Cond.fieldLink RX6 78 "WantsBenchModel" "row" "[I" ∈ wsX6_follows := by decide +kernel
theorem kwX6_follows_6 : Cond.fieldLink RX6 50 "WantsBenchModel" "step" "[I" ∈ wsX6_follows := by decide +kernel
def fX6_follows_66b (N : Nat) (S : RS) (v3 : Int32) (v4 : Int32) (v5 : Int32) (R : Int32 → RS → Prop) (K : RS → Prop) (Q : Int32 → RS → Prop) : Prop :=
  (((S.1 17) ≤ v5 → K S) ∧ (¬ (S.1 17) ≤ v5 → (vp_in v5 1024 ∧ (∀ S14 : RS, S14 = sA S 40 (upd (S.2.1 40) v5.toNatClampNeg (vp_nar .boolean 0)) → (∀ x15 : Int32, x15 = v5 + 1 → R x15 S14)))))
set_option maxRecDepth 100000 in
set_option maxHeartbeats 4000000 in
theorem wfX6_follows_66b {x : Nx} {g : Gx} {W0 : va_W} {a : Nat → Nat} {S : RS} {N : Nat} {v3 : Int32} {v4 : Int32} {v5 : Int32} {R : Int32 → RS → Prop} {K : RS → Prop} {Q : Int32 → RS → Prop} (C : Cx x g cX6_follows RX6 wsX6_follows rmX6_follows yX6_follows (some .int) 11) (hZ : Zq x g W0 (fun u : RS => mW g a u) (qI (fun (r : Int32) (u : RS) => Q r u)) 0 0) (hR : ∀ (w5 : Int32) (S_ : RS), R w5 S_ → St x 0 0 (mW g a S_) [(0, .ref (a 50)), (3, .int v3), (4, .int v4), (5, .int w5)] [] 66) (hK : ∀ (S_ : RS), K S_ → St x 0 0 (mW g a S_) [(0, .ref (a 50)), (3, .int v3), (4, .int v4)] [] 89) (h : fX6_follows_66b N S v3 v4 v5 R K Q) : St x 0 0 (mW g a S) [(0, .ref (a 50)), (3, .int v3), (4, .int v4), (5, .int v5)] [] 66 := by
  unfold fX6_follows_66b at h
  refine r_iload C dX6_follows_66 rfl ?_
  refine r_aload_n C dX6_follows_68 rfl ?_
  refine r_get (cn := RX6) (T := TX6) (N := 43) (ci := 6) C uwX6_follows_6 0 rfl rfl 17 (by decide) kwX6_follows_3 (v := .int (S.1 17)) rfl dX6_follows_69 ?_
  refine r_icmp_ge (tgt := 89) C dX6_follows_72 (by decide) (fun c12 => ?_) (fun c12 => ?_)
  · have h := h.1 c12
    refine r_sub [0, 1, 2] (lv' := [(0, .ref (a 50)), (3, .int v3), (4, .int v4)]) rfl ?_
    exact hK S h
  · have h := h.2 c12
    refine r_aload_n C dX6_follows_75 rfl ?_
    refine r_get (cn := RX6) (T := TX6) (N := 43) (ci := 6) C uwX6_follows_6 0 rfl rfl 40 (by decide) kwX6_follows_4 (v := .ref (a 40)) rfl dX6_follows_76 ?_
    refine r_iload C dX6_follows_79 rfl ?_
    refine r_iconst (v := 0) C dX6_follows_81 (by decide) ?_
    obtain ⟨hi13, h⟩ := h
    obtain ⟨S14, hS14⟩ : ∃ z : RS, z = sA S 40 (upd (S.2.1 40) v5.toNatClampNeg (vp_nar .boolean 0)) := ⟨_, rfl⟩
    have h := h S14 hS14
    refine r_zast (ws' := mW g a S14) C 24 rfl hi13 dX6_follows_82 (by rw [hS14]; rfl) ?_
    obtain ⟨x15, ex15⟩ : ∃ z : Int32, z = v5 + 1 := ⟨_, rfl⟩
    have h := h x15 ex15
    refine r_iinc (v := x15) (lv' := [(0, .ref (a 50)), (3, .int v3), (4, .int v4), (5, .int x15)]) C dX6_follows_83 rfl (by rw [ex15]; rfl) [some 0, some 1, some 2, none] (by decide) rfl rfl ?_
    refine r_goto (tgt := 66) C dX6_follows_86 (by decide) ?_
    exact hR x15 S14 h
def fX6_follows_66 (N : Nat) (v3 : Int32) (v4 : Int32) (K : RS → Prop) (Q : Int32 → RS → Prop) : Nat → Int32 → RS → Prop
  | 0, _, _ => False
  | n + 1, v5, S => fX6_follows_66b N S v3 v4 v5 (fun v5 S => fX6_follows_66 N v3 v4 K Q n v5 S) K Q
set_option maxRecDepth 100000 in
set_option maxHeartbeats 4000000 in
theorem wfX6_follows_66 {x : Nx} {g : Gx} {W0 : va_W} {a : Nat → Nat}  {N : Nat} {v3 : Int32} {v4 : Int32} {K : RS → Prop} {Q : Int32 → RS → Prop} (C : Cx x g cX6_follows RX6 wsX6_follows rmX6_follows yX6_follows (some .int) 11) (hZ : Zq x g W0 (fun u : RS => mW g a u) (qI (fun (r : Int32) (u : RS) => Q r u)) 0 0) (hK : ∀ (S_ : RS), K S_ → St x 0 0 (mW g a S_) [(0, .ref (a 50)), (3, .int v3), (4, .int v4)] [] 89) : ∀ (n : Nat) (v5 : Int32) (S : RS), fX6_follows_66 N v3 v4 K Q n v5 S → St x 0 0 (mW g a S) [(0, .ref (a 50)), (3, .int v3), (4, .int v4), (5, .int v5)] [] 66 := by
  intro n
  induction n with
  | zero => intro v5 S h; exact False.elim h
  | succ n ih => intro v5 S h; exact wfX6_follows_66b C hZ ih hK h
def fX6_follows_119b (N : Nat) (S : RS) (v3 : Int32) (v4 : Int32) (v5 : Int32) (v6 : Int32) (v7 : Int32) (R : Int32 → Int32 → RS → Prop) (K : Int32 → RS → Prop) (Q : Int32 → RS → Prop) : Prop :=
  ((64 ≤ v7 → K v5 S) ∧ (¬ 64 ≤ v7 → (∀ S23 : RS, S23 = sI S 16 v3 → (vp_in v6 1024 ∧ (¬ v4 = 0 ∧ (fX6_behind N S23 ((S23.2.1 39 v6.toNatClampNeg) - (S23.2.1 39 v6.toNatClampNeg) / v4 * v4) v7 (fun r26 => (vp_in v6 1024 ∧ (¬ v4 = 0 ∧ (vp_in (((((4 : Int32) * v3) + ((S23.2.1 39 v6.toNatClampNeg) / v4)) * (64 : Int32)) + v7) 1280 ∧ (∀ x30 : Int32, x30 = S23.2.1 18 (((((4 : Int32) * v3) + ((S23.2.1 39 v6.toNatClampNeg) / v4)) * (64 : Int32)) + v7).toNatClampNeg → (∀ S31 : RS, S31 = sI S23 16 (v3 + (1 : Int32)) → ((r26 < 0 → (∀ x33 : Int32, x33 = v7 + 1 → R v5 x33 S31)) ∧ (¬ r26 < 0 → ((0 ≤ x30 → (∀ x35 : Int32, x35 = r26 + (v4 * x30) → (vp_in x35 1024 ∧ ((¬ (S31.2.1 40 x35.toNatClampNeg) = 0 → (∀ x38 : Int32, x38 = v7 + 1 → R v5 x38 S31)) ∧ ((S31.2.1 40 x35.toNatClampNeg) = 0 → (vp_in x35 1024 ∧ (∀ S40 : RS, S40 = sA S31 40 (upd (S31.2.1 40) x35.toNatClampNeg (vp_nar .boolean 1)) → (vp_in v5 1024 ∧ (∀ S42 : RS, S42 = sA S40 39 (upd (S40.2.1 39) v5.toNatClampNeg x35) → (∀ x43 : Int32, x43 = v5 + 1 → (∀ x44 : Int32, x44 = v7 + 1 → R x43 x44 S42))))))))))) ∧ (¬ 0 ≤ x30 → Q 0 S31))))))))))))))))
set_option maxRecDepth 100000 in
set_option maxHeartbeats 4000000 in
theorem wfX6_follows_119b {x : Nx} {g : Gx} {W0 : va_W} {a : Nat → Nat} {S : RS} {N : Nat} {v3 : Int32} {v4 : Int32} {v5 : Int32} {v6 : Int32} {v7 : Int32} {R : Int32 → Int32 → RS → Prop} {K : Int32 → RS → Prop} {Q : Int32 → RS → Prop} (C : Cx x g cX6_follows RX6 wsX6_follows rmX6_follows yX6_follows (some .int) 11) (hZ : Zq x g W0 (fun u : RS => mW g a u) (qI (fun (r : Int32) (u : RS) => Q r u)) 0 0) (hR : ∀ (w5 : Int32) (w7 : Int32) (S_ : RS), R w5 w7 S_ → St x 0 0 (mW g a S_) [(0, .ref (a 50)), (3, .int v3), (4, .int v4), (5, .int w5), (6, .int v6), (7, .int w7)] [] 119) (hK : ∀ (w5 : Int32) (S_ : RS), K w5 S_ → St x 0 0 (mW g a S_) [(0, .ref (a 50)), (3, .int v3), (4, .int v4), (5, .int w5), (6, .int v6)] [] 241) (h : fX6_follows_119b N S v3 v4 v5 v6 v7 R K Q) : St x 0 0 (mW g a S) [(0, .ref (a 50)), (3, .int v3), (4, .int v4), (5, .int v5), (6, .int v6), (7, .int v7)] [] 119 := by
  unfold fX6_follows_119b at h
  refine r_iload C dX6_follows_119 rfl ?_
  refine r_bipush (v := 64) C dX6_follows_121 (by decide) ?_
  refine r_icmp_ge (tgt := 241) C dX6_follows_123 (by decide) (fun c22 => ?_) (fun c22 => ?_)
  · have h := h.1 c22
    refine r_sub [0, 1, 2, 3, 4] (lv' := [(0, .ref (a 50)), (3, .int v3), (4, .int v4), (5, .int v5), (6, .int v6)]) rfl ?_
    exact hK v5 S h
  · have h := h.2 c22
    refine r_aload_n C dX6_follows_126 rfl ?_
    refine r_iload_n C dX6_follows_127 rfl ?_
    obtain ⟨S23, hS23⟩ : ∃ z : RS, z = sI S 16 v3 := ⟨_, rfl⟩
    have h := h S23 hS23
    refine r_put (cn := RX6) (T := TX6) (N := 43) (ci := 6) (ws' := mW g a S23) C uwX6_follows_6 tyX6 tyX6_ok nmX6 0 rfl rfl 16 (by decide) kwX6_follows_2 rfl rfl rfl (Nat.le_of_ble_eq_true rfl) dX6_follows_128 (by rw [hS23]; rfl) ?_
    refine r_aload_n C dX6_follows_131 rfl ?_
    refine r_aload_n C dX6_follows_132 rfl ?_
    refine r_get (cn := RX6) (T := TX6) (N := 43) (ci := 6) C uwX6_follows_6 0 rfl rfl 39 (by decide) kwX6_follows_5 (v := .ref (a 39)) rfl dX6_follows_133 ?_
    refine r_iload C dX6_follows_136 rfl ?_
    obtain ⟨hi24, h⟩ := h
    refine r_iald C 23 rfl hi24 dX6_follows_138 ?_
    refine r_iload C dX6_follows_139 rfl ?_
    obtain ⟨hn25, h⟩ := h
    refine r_irem C dX6_follows_141 hn25 ?_
    refine r_iload C dX6_follows_142 rfl ?_
    refine callR_I C (run_V (As := [.int ((S23.2.1 39 v6.toNatClampNeg) - (S23.2.1 39 v6.toNatClampNeg) / v4 * v4), .int v7]) (rest := []) (ci := 6) C hZ.2.2 (tX6_behind _ g a S23 N ((S23.2.1 39 v6.toNatClampNeg) - (S23.2.1 39 v6.toNatClampNeg) / v4 * v4) v7 _ h) gX6_follows_X6_behind rfl dsX6_behind rfl rfl ⟨(Nat.le_of_ble_eq_true rfl), (Nat.le_of_ble_eq_true rfl)⟩ rfl (List.mem_of_getElem? (i := 0) rfl) rfl (Nat.le_of_ble_eq_true rfl) dX6_follows_144 ⟨Nat.zero_le _, Nat.zero_le _⟩) (List.Sublist.refl _) (fun _ => rfl) (fun r26 _ h => ?_)
    refine r_istore (lv' := [(0, .ref (a 50)), (3, .int v3), (4, .int v4), (5, .int v5), (6, .int v6), (7, .int v7), (8, .int r26)]) C dX6_follows_147 [some 0, some 1, some 2, some 3, some 4, some 5, none] (by decide) rfl rfl ?_
    refine r_aload_n C dX6_follows_149 rfl ?_
    refine r_get (cn := RX6) (T := TX6) (N := 43) (ci := 6) C uwX6_follows_6 0 rfl rfl 18 (by decide) kwX6_follows_6 (v := .ref (a 18)) rfl dX6_follows_150 ?_
    refine r_iconst (v := 4) C dX6_follows_153 (by decide) ?_
    refine r_iload_n C dX6_follows_154 rfl ?_
    refine r_imul C dX6_follows_155 ?_
    refine r_aload_n C dX6_follows_156 rfl ?_
    refine r_get (cn := RX6) (T := TX6) (N := 43) (ci := 6) C uwX6_follows_6 0 rfl rfl 39 (by decide) kwX6_follows_5 (v := .ref (a 39)) rfl dX6_follows_157 ?_
    refine r_iload C dX6_follows_160 rfl ?_
    obtain ⟨hi27, h⟩ := h
    refine r_iald C 23 rfl hi27 dX6_follows_162 ?_
    refine r_iload C dX6_follows_163 rfl ?_
    obtain ⟨hn28, h⟩ := h
    refine r_idiv C dX6_follows_165 hn28 ?_
    refine r_iadd C dX6_follows_166 ?_
    refine r_bipush (v := 64) C dX6_follows_167 (by decide) ?_
    refine r_imul C dX6_follows_169 ?_
    refine r_iload C dX6_follows_170 rfl ?_
    refine r_iadd C dX6_follows_172 ?_
    obtain ⟨hi29, h⟩ := h
    refine r_iald C 14 rfl hi29 dX6_follows_173 ?_
    refine r_topi (fun x30 ex30 => ?_)
    have h := h x30 ex30
    refine r_istore (lv' := [(0, .ref (a 50)), (3, .int v3), (4, .int v4), (5, .int v5), (6, .int v6), (7, .int v7), (8, .int r26), (9, .int x30)]) C dX6_follows_174 [some 0, some 1, some 2, some 3, some 4, some 5, some 6, none] (by decide) rfl rfl ?_
    refine r_aload_n C dX6_follows_176 rfl ?_
    refine r_iload_n C dX6_follows_177 rfl ?_
    refine r_iconst (v := 1) C dX6_follows_178 (by decide) ?_
    refine r_iadd C dX6_follows_179 ?_
    obtain ⟨S31, hS31⟩ : ∃ z : RS, z = sI S23 16 (v3 + (1 : Int32)) := ⟨_, rfl⟩
    have h := h S31 hS31
    refine r_put (cn := RX6) (T := TX6) (N := 43) (ci := 6) (ws' := mW g a S31) C uwX6_follows_6 tyX6 tyX6_ok nmX6 0 rfl rfl 16 (by decide) kwX6_follows_2 rfl rfl rfl (Nat.le_of_ble_eq_true rfl) dX6_follows_180 (by rw [hS31]; rfl) ?_
    refine r_iload C dX6_follows_183 rfl ?_
    refine r_if_lt (tgt := 235) C dX6_follows_185 (by decide) (fun c32 => ?_) (fun c32 => ?_)
    · have h := h.1 c32
      obtain ⟨x33, ex33⟩ : ∃ z : Int32, z = v7 + 1 := ⟨_, rfl⟩
      have h := h x33 ex33
      refine r_iinc (v := x33) (lv' := [(0, .ref (a 50)), (3, .int v3), (4, .int v4), (5, .int v5), (6, .int v6), (7, .int x33)]) C dX6_follows_235 rfl (by rw [ex33]; rfl) [some 0, some 1, some 2, some 3, some 4, none] (by decide) rfl rfl ?_
      refine r_goto (tgt := 119) C dX6_follows_238 (by decide) ?_
      exact hR v5 x33 S31 h
    · have h := h.2 c32
      refine r_iload C dX6_follows_188 rfl ?_
      refine r_if_ge (tgt := 195) C dX6_follows_190 (by decide) (fun c34 => ?_) (fun c34 => ?_)
      · have h := h.1 c34
        refine r_iload C dX6_follows_195 rfl ?_
        refine r_iload C dX6_follows_197 rfl ?_
        refine r_iload C dX6_follows_199 rfl ?_
        refine r_imul C dX6_follows_201 ?_
        refine r_iadd C dX6_follows_202 ?_
        refine r_topi (fun x35 ex35 => ?_)
        have h := h x35 ex35
        refine r_istore (lv' := [(0, .ref (a 50)), (3, .int v3), (4, .int v4), (5, .int v5), (6, .int v6), (7, .int v7), (10, .int x35)]) C dX6_follows_203 [some 0, some 1, some 2, some 3, some 4, some 5, none] (by decide) rfl rfl ?_
        refine r_aload_n C dX6_follows_205 rfl ?_
        refine r_get (cn := RX6) (T := TX6) (N := 43) (ci := 6) C uwX6_follows_6 0 rfl rfl 40 (by decide) kwX6_follows_4 (v := .ref (a 40)) rfl dX6_follows_206 ?_
        refine r_iload C dX6_follows_209 rfl ?_
        obtain ⟨hi36, h⟩ := h
        refine r_zald C 24 rfl hi36 dX6_follows_211 ?_
        refine r_if_ne (tgt := 235) C dX6_follows_212 (by decide) (fun c37 => ?_) (fun c37 => ?_)
        · have h := h.1 c37
          obtain ⟨x38, ex38⟩ : ∃ z : Int32, z = v7 + 1 := ⟨_, rfl⟩
          have h := h x38 ex38
          refine r_iinc (v := x38) (lv' := [(0, .ref (a 50)), (3, .int v3), (4, .int v4), (5, .int v5), (6, .int v6), (7, .int x38)]) C dX6_follows_235 rfl (by rw [ex38]; rfl) [some 0, some 1, some 2, some 3, some 4, none] (by decide) rfl rfl ?_
          refine r_goto (tgt := 119) C dX6_follows_238 (by decide) ?_
          exact hR v5 x38 S31 h
        · have h := h.2 c37
          refine r_aload_n C dX6_follows_215 rfl ?_
          refine r_get (cn := RX6) (T := TX6) (N := 43) (ci := 6) C uwX6_follows_6 0 rfl rfl 40 (by decide) kwX6_follows_4 (v := .ref (a 40)) rfl dX6_follows_216 ?_
          refine r_iload C dX6_follows_219 rfl ?_
          refine r_iconst (v := 1) C dX6_follows_221 (by decide) ?_
          obtain ⟨hi39, h⟩ := h
          obtain ⟨S40, hS40⟩ : ∃ z : RS, z = sA S31 40 (upd (S31.2.1 40) x35.toNatClampNeg (vp_nar .boolean 1)) := ⟨_, rfl⟩
          have h := h S40 hS40
          refine r_zast (ws' := mW g a S40) C 24 rfl hi39 dX6_follows_222 (by rw [hS40]; rfl) ?_
          refine r_aload_n C dX6_follows_223 rfl ?_
          refine r_get (cn := RX6) (T := TX6) (N := 43) (ci := 6) C uwX6_follows_6 0 rfl rfl 39 (by decide) kwX6_follows_5 (v := .ref (a 39)) rfl dX6_follows_224 ?_
          refine r_iload C dX6_follows_227 rfl ?_
          refine r_iload C dX6_follows_229 rfl ?_
          obtain ⟨hi41, h⟩ := h
          obtain ⟨S42, hS42⟩ : ∃ z : RS, z = sA S40 39 (upd (S40.2.1 39) v5.toNatClampNeg x35) := ⟨_, rfl⟩
          have h := h S42 hS42
          refine r_iast (ws' := mW g a S42) C 23 rfl hi41 dX6_follows_231 (by rw [hS42]; rfl) ?_
          obtain ⟨x43, ex43⟩ : ∃ z : Int32, z = v5 + 1 := ⟨_, rfl⟩
          have h := h x43 ex43
          refine r_iinc (v := x43) (lv' := [(0, .ref (a 50)), (3, .int v3), (4, .int v4), (5, .int x43), (6, .int v6), (7, .int v7)]) C dX6_follows_232 rfl (by rw [ex43]; rfl) [some 0, some 1, some 2, none, some 4, some 5] (by decide) rfl rfl ?_
          obtain ⟨x44, ex44⟩ : ∃ z : Int32, z = v7 + 1 := ⟨_, rfl⟩
          have h := h x44 ex44
          refine r_iinc (v := x44) (lv' := [(0, .ref (a 50)), (3, .int v3), (4, .int v4), (5, .int x43), (6, .int v6), (7, .int x44)]) C dX6_follows_235 rfl (by rw [ex44]; rfl) [some 0, some 1, some 2, some 3, some 4, none] (by decide) rfl rfl ?_
          refine r_goto (tgt := 119) C dX6_follows_238 (by decide) ?_
          exact hR x43 x44 S42 h
      · have h := h.2 c34
        refine r_iconst (v := 0) C dX6_follows_193 (by decide) ?_
        exact r_iret C hZ (u := S31) h rfl dX6_follows_194
def fX6_follows_119 (N : Nat) (v3 : Int32) (v4 : Int32) (v6 : Int32) (K : Int32 → RS → Prop) (Q : Int32 → RS → Prop) : Nat → Int32 → Int32 → RS → Prop
  | 0, _, _, _ => False
  | n + 1, v5, v7, S => fX6_follows_119b N S v3 v4 v5 v6 v7 (fun v5 v7 S => fX6_follows_119 N v3 v4 v6 K Q n v5 v7 S) K Q
set_option maxRecDepth 100000 in
set_option maxHeartbeats 4000000 in
theorem wfX6_follows_119 {x : Nx} {g : Gx} {W0 : va_W} {a : Nat → Nat}  {N : Nat} {v3 : Int32} {v4 : Int32} {v6 : Int32} {K : Int32 → RS → Prop} {Q : Int32 → RS → Prop} (C : Cx x g cX6_follows RX6 wsX6_follows rmX6_follows yX6_follows (some .int) 11) (hZ : Zq x g W0 (fun u : RS => mW g a u) (qI (fun (r : Int32) (u : RS) => Q r u)) 0 0) (hK : ∀ (w5 : Int32) (S_ : RS), K w5 S_ → St x 0 0 (mW g a S_) [(0, .ref (a 50)), (3, .int v3), (4, .int v4), (5, .int w5), (6, .int v6)] [] 241) : ∀ (n : Nat) (v5 : Int32) (v7 : Int32) (S : RS), fX6_follows_119 N v3 v4 v6 K Q n v5 v7 S → St x 0 0 (mW g a S) [(0, .ref (a 50)), (3, .int v3), (4, .int v4), (5, .int v5), (6, .int v6), (7, .int v7)] [] 119 := by
  intro n
  induction n with
  | zero => intro v5 v7 S h; exact False.elim h
  | succ n ih => intro v5 v7 S h; exact wfX6_follows_119b C hZ ih hK h
def fX6_follows_109b (N : Nat) (S : RS) (v3 : Int32) (v4 : Int32) (v5 : Int32) (v6 : Int32) (R : Int32 → Int32 → RS → Prop) (K : RS → Prop) (Q : Int32 → RS → Prop) : Prop :=
  ((v5 ≤ v6 → K S) ∧ (¬ v5 ≤ v6 → (fX6_follows_119 N v3 v4 v6 (fun x45 S46 => (∀ x47 : Int32, x47 = v6 + 1 → R x45 x47 S46)) Q N v5 0 S)))
set_option maxRecDepth 100000 in
set_option maxHeartbeats 4000000 in
theorem wfX6_follows_109b {x : Nx} {g : Gx} {W0 : va_W} {a : Nat → Nat} {S : RS} {N : Nat} {v3 : Int32} {v4 : Int32} {v5 : Int32} {v6 : Int32} {R : Int32 → Int32 → RS → Prop} {K : RS → Prop} {Q : Int32 → RS → Prop} (C : Cx x g cX6_follows RX6 wsX6_follows rmX6_follows yX6_follows (some .int) 11) (hZ : Zq x g W0 (fun u : RS => mW g a u) (qI (fun (r : Int32) (u : RS) => Q r u)) 0 0) (hR : ∀ (w5 : Int32) (w6 : Int32) (S_ : RS), R w5 w6 S_ → St x 0 0 (mW g a S_) [(0, .ref (a 50)), (3, .int v3), (4, .int v4), (5, .int w5), (6, .int w6)] [] 109) (hK : ∀ (S_ : RS), K S_ → St x 0 0 (mW g a S_) [] [] 247) (h : fX6_follows_109b N S v3 v4 v5 v6 R K Q) : St x 0 0 (mW g a S) [(0, .ref (a 50)), (3, .int v3), (4, .int v4), (5, .int v5), (6, .int v6)] [] 109 := by
  unfold fX6_follows_109b at h
  refine r_iload C dX6_follows_109 rfl ?_
  refine r_iload C dX6_follows_111 rfl ?_
  refine r_icmp_ge (tgt := 247) C dX6_follows_113 (by decide) (fun c21 => ?_) (fun c21 => ?_)
  · have h := h.1 c21
    refine r_sub [] (lv' := []) rfl ?_
    exact hK S h
  · have h := h.2 c21
    refine r_iconst (v := 0) C dX6_follows_116 (by decide) ?_
    refine r_istore (lv' := [(0, .ref (a 50)), (3, .int v3), (4, .int v4), (5, .int v5), (6, .int v6), (7, .int 0)]) C dX6_follows_117 [some 0, some 1, some 2, some 3, some 4, none] (by decide) rfl rfl ?_
    refine wfX6_follows_119 C hZ (fun x45 S46 h => ?_) N _ _ _ h
    obtain ⟨x47, ex47⟩ : ∃ z : Int32, z = v6 + 1 := ⟨_, rfl⟩
    have h := h x47 ex47
    refine r_iinc (v := x47) (lv' := [(0, .ref (a 50)), (3, .int v3), (4, .int v4), (5, .int x45), (6, .int x47)]) C dX6_follows_241 rfl (by rw [ex47]; rfl) [some 0, some 1, some 2, some 3, none] (by decide) rfl rfl ?_
    refine r_goto (tgt := 109) C dX6_follows_244 (by decide) ?_
    exact hR x45 x47 S46 h
def fX6_follows_109 (N : Nat) (v3 : Int32) (v4 : Int32) (K : RS → Prop) (Q : Int32 → RS → Prop) : Nat → Int32 → Int32 → RS → Prop
  | 0, _, _, _ => False
  | n + 1, v5, v6, S => fX6_follows_109b N S v3 v4 v5 v6 (fun v5 v6 S => fX6_follows_109 N v3 v4 K Q n v5 v6 S) K Q
set_option maxRecDepth 100000 in
set_option maxHeartbeats 4000000 in
theorem wfX6_follows_109 {x : Nx} {g : Gx} {W0 : va_W} {a : Nat → Nat}  {N : Nat} {v3 : Int32} {v4 : Int32} {K : RS → Prop} {Q : Int32 → RS → Prop} (C : Cx x g cX6_follows RX6 wsX6_follows rmX6_follows yX6_follows (some .int) 11) (hZ : Zq x g W0 (fun u : RS => mW g a u) (qI (fun (r : Int32) (u : RS) => Q r u)) 0 0) (hK : ∀ (S_ : RS), K S_ → St x 0 0 (mW g a S_) [] [] 247) : ∀ (n : Nat) (v5 : Int32) (v6 : Int32) (S : RS), fX6_follows_109 N v3 v4 K Q n v5 v6 S → St x 0 0 (mW g a S) [(0, .ref (a 50)), (3, .int v3), (4, .int v4), (5, .int v5), (6, .int v6)] [] 109 := by
  intro n
  induction n with
  | zero => intro v5 v6 S h; exact False.elim h
  | succ n ih => intro v5 v6 S h; exact wfX6_follows_109b C hZ ih hK h
def fX6_follows (N : Nat) (S : RS) (v1 : Int32) (v2 : Int32) (Q : Int32 → RS → Prop) : Prop :=
  (fX6_isWant N S v1 (fun r1 => ((r1 = 0 → Q (-1) S) ∧ (¬ r1 = 0 → (fX6_isSet N S v2 4 (fun r3 => ((r3 = 0 → Q (-1) S) ∧ (¬ r3 = 0 → ((¬ ((v2 >>> (v1 &&& 31)) &&& (1 : Int32)) = 1 → (fX6_takeSet N S v2 (fun  S6 => (vp_in v1 20 ∧ (fX6_add N S6 v1 (S6.2.1 4 v1.toNatClampNeg) (fun  S8 => (fX6_findSteps N S8 (fun  S9 => (∀ x10 : Int32, x10 = (S9.1 16) - (1 : Int32) → (∀ x11 : Int32, x11 = (S9.1 17) / (4 : Int32) → (fX6_follows_66 N x10 x11 (fun S16 => (vp_in 0 1024 ∧ (∀ S18 : RS, S18 = sA S16 39 (upd (S16.2.1 39) (0 : Int32).toNatClampNeg 0) → (vp_in 0 1024 ∧ (∀ S20 : RS, S20 = sA S18 40 (upd (S18.2.1 40) (0 : Int32).toNatClampNeg (vp_nar .boolean 1)) → (fX6_follows_109 N x10 x11 (fun S48 => Q 1 S48) Q N 1 0 S20)))))) Q N 0 S9))))))))))) ∧ (((v2 >>> (v1 &&& 31)) &&& (1 : Int32)) = 1 → Q (-1) S))))))))))
set_option maxRecDepth 100000 in
set_option maxHeartbeats 4000000 in
theorem tX6_follows (l : Launch) (g : Gx) (a : Nat → Nat) (S : RS) (N : Nat) (v1 : Int32) (v2 : Int32) (Q : Int32 → RS → Prop) (h : fX6_follows N S v1 v2 Q) : MetG l g yX6_follows wsX6_follows rmX6_follows [.ref (a 50), .int v1, .int v2] (mW g a S) (fun u : RS => mW g a u) (qI (fun (r : Int32) (u : RS) => Q r u)) 0 0 := by
  refine met_of (cc := cX6_follows) (own := RX6) (nL := 11) (ret := (some .int)) (lv := [(0, .ref (a 50)), (1, .int v1), (2, .int v2)]) (by decide) rfl rfl (Nat.le_of_ble_eq_true rfl) rfl ?_
  intro x C hl hZ
  subst hl
  unfold fX6_follows at h
  refine r_aload_n C dX6_follows_0 rfl ?_
  refine r_iload_n C dX6_follows_1 rfl ?_
  refine callR_I C (run_V (As := [.int v1]) (rest := []) (ci := 6) C hZ.2.2 (tX6_isWant _ g a S N v1 _ h) gX6_follows_X6_isWant rfl dsX6_isWant rfl rfl ⟨(Nat.le_of_ble_eq_true rfl), (Nat.le_of_ble_eq_true rfl)⟩ rfl (List.mem_of_getElem? (i := 0) rfl) rfl (Nat.le_of_ble_eq_true rfl) dX6_follows_2 ⟨Nat.zero_le _, Nat.zero_le _⟩) (List.Sublist.refl _) (fun _ => rfl) (fun r1 _ h => ?_)
  refine r_if_eq (tgt := 26) C dX6_follows_5 (by decide) (fun c2 => ?_) (fun c2 => ?_)
  · have h := h.1 c2
    refine r_iconst (v := (-1)) C dX6_follows_26 (by decide) ?_
    exact r_iret C hZ (u := S) h rfl dX6_follows_27
  · have h := h.2 c2
    refine r_aload_n C dX6_follows_8 rfl ?_
    refine r_iload_n C dX6_follows_9 rfl ?_
    refine r_iconst (v := 4) C dX6_follows_10 (by decide) ?_
    refine callR_I C (run_V (As := [.int v2, .int 4]) (rest := []) (ci := 6) C hZ.2.2 (tX6_isSet _ g a S N v2 4 _ h) gX6_follows_X6_isSet rfl dsX6_isSet rfl rfl ⟨(Nat.le_of_ble_eq_true rfl), (Nat.le_of_ble_eq_true rfl)⟩ rfl (List.mem_of_getElem? (i := 0) rfl) rfl (Nat.le_of_ble_eq_true rfl) dX6_follows_11 ⟨Nat.zero_le _, Nat.zero_le _⟩) (List.Sublist.refl _) (fun _ => rfl) (fun r3 _ h => ?_)
    refine r_if_eq (tgt := 26) C dX6_follows_14 (by decide) (fun c4 => ?_) (fun c4 => ?_)
    · have h := h.1 c4
      refine r_iconst (v := (-1)) C dX6_follows_26 (by decide) ?_
      exact r_iret C hZ (u := S) h rfl dX6_follows_27
    · have h := h.2 c4
      refine r_iload_n C dX6_follows_17 rfl ?_
      refine r_iload_n C dX6_follows_18 rfl ?_
      refine r_ishr C dX6_follows_19 ?_
      refine r_iconst (v := 1) C dX6_follows_20 (by decide) ?_
      refine r_iand C dX6_follows_21 ?_
      refine r_iconst (v := 1) C dX6_follows_22 (by decide) ?_
      refine r_icmp_ne (tgt := 28) C dX6_follows_23 (by decide) (fun c5 => ?_) (fun c5 => ?_)
      · have h := h.1 c5
        refine r_aload_n C dX6_follows_28 rfl ?_
        refine r_iload_n C dX6_follows_29 rfl ?_
        refine callW_V C (run_V (As := [.int v2]) (rest := []) (ci := 6) C hZ.2.2 (tX6_takeSet _ g a S N v2 _ h) gX6_follows_X6_takeSet rfl dsX6_takeSet rfl rfl ⟨(Nat.le_of_ble_eq_true rfl), (Nat.le_of_ble_eq_true rfl)⟩ rfl (List.mem_of_getElem? (i := 0) rfl) rfl (Nat.le_of_ble_eq_true rfl) dX6_follows_30 ⟨Nat.zero_le _, Nat.zero_le _⟩) (fun S6 h => ?_)
        show St x 0 0 (mW g a S6) _ _ 33
        refine r_aload_n C dX6_follows_33 rfl ?_
        refine r_iload_n C dX6_follows_34 rfl ?_
        refine r_aload_n C dX6_follows_35 rfl ?_
        refine r_get (cn := RX6) (T := TX6) (N := 43) (ci := 6) C uwX6_follows_6 0 rfl rfl 4 (by decide) kwX6_follows_0 (v := .ref (a 4)) rfl dX6_follows_36 ?_
        refine r_iload_n C dX6_follows_39 rfl ?_
        obtain ⟨hi7, h⟩ := h
        refine r_iald C 3 rfl hi7 dX6_follows_40 ?_
        refine callW_V C (run_V (As := [.int v1, .int (S6.2.1 4 v1.toNatClampNeg)]) (rest := []) (ci := 6) C hZ.2.2 (tX6_add _ g a S6 N v1 (S6.2.1 4 v1.toNatClampNeg) _ h) gX6_follows_X6_add rfl dsX6_add rfl rfl ⟨(Nat.le_of_ble_eq_true rfl), (Nat.le_of_ble_eq_true rfl)⟩ rfl (List.mem_of_getElem? (i := 0) rfl) rfl (Nat.le_of_ble_eq_true rfl) dX6_follows_41 ⟨Nat.zero_le _, Nat.zero_le _⟩) (fun S8 h => ?_)
        show St x 0 0 (mW g a S8) _ _ 44
        refine r_aload_n C dX6_follows_44 rfl ?_
        refine callW_V C (run_V (As := []) (rest := []) (ci := 6) C hZ.2.2 (tX6_findSteps _ g a S8 N _ h) gX6_follows_X6_findSteps rfl dsX6_findSteps rfl rfl ⟨(Nat.le_of_ble_eq_true rfl), (Nat.le_of_ble_eq_true rfl)⟩ rfl (List.mem_of_getElem? (i := 0) rfl) rfl (Nat.le_of_ble_eq_true rfl) dX6_follows_45 ⟨Nat.zero_le _, Nat.zero_le _⟩) (fun S9 h => ?_)
        show St x 0 0 (mW g a S9) _ _ 48
        refine r_aload_n C dX6_follows_48 rfl ?_
        refine r_get (cn := RX6) (T := TX6) (N := 43) (ci := 6) C uwX6_follows_6 0 rfl rfl 16 (by decide) kwX6_follows_2 (v := .int (S9.1 16)) rfl dX6_follows_49 ?_
        refine r_iconst (v := 1) C dX6_follows_52 (by decide) ?_
        refine r_isub C dX6_follows_53 ?_
        refine r_topi (fun x10 ex10 => ?_)
        have h := h x10 ex10
        refine r_istore_n (lv' := [(0, .ref (a 50)), (3, .int x10)]) C dX6_follows_54 [some 0, none] (by decide) rfl rfl ?_
        refine r_aload_n C dX6_follows_55 rfl ?_
        refine r_get (cn := RX6) (T := TX6) (N := 43) (ci := 6) C uwX6_follows_6 0 rfl rfl 17 (by decide) kwX6_follows_3 (v := .int (S9.1 17)) rfl dX6_follows_56 ?_
        refine r_iconst (v := 4) C dX6_follows_59 (by decide) ?_
        refine r_idiv C dX6_follows_60 (by decide) ?_
        refine r_topi (fun x11 ex11 => ?_)
        have h := h x11 ex11
        refine r_istore (lv' := [(0, .ref (a 50)), (3, .int x10), (4, .int x11)]) C dX6_follows_61 [some 0, some 1, none] (by decide) rfl rfl ?_
        refine r_iconst (v := 0) C dX6_follows_63 (by decide) ?_
        refine r_istore (lv' := [(0, .ref (a 50)), (3, .int x10), (4, .int x11), (5, .int 0)]) C dX6_follows_64 [some 0, some 1, some 2, none] (by decide) rfl rfl ?_
        refine wfX6_follows_66 C hZ (fun S16 h => ?_) N _ _ h
        refine r_aload_n C dX6_follows_89 rfl ?_
        refine r_get (cn := RX6) (T := TX6) (N := 43) (ci := 6) C uwX6_follows_6 0 rfl rfl 39 (by decide) kwX6_follows_5 (v := .ref (a 39)) rfl dX6_follows_90 ?_
        refine r_iconst (v := 0) C dX6_follows_93 (by decide) ?_
        refine r_iconst (v := 0) C dX6_follows_94 (by decide) ?_
        obtain ⟨hi17, h⟩ := h
        obtain ⟨S18, hS18⟩ : ∃ z : RS, z = sA S16 39 (upd (S16.2.1 39) (0 : Int32).toNatClampNeg 0) := ⟨_, rfl⟩
        have h := h S18 hS18
        refine r_iast (ws' := mW g a S18) C 23 rfl hi17 dX6_follows_95 (by rw [hS18]; rfl) ?_
        refine r_aload_n C dX6_follows_96 rfl ?_
        refine r_get (cn := RX6) (T := TX6) (N := 43) (ci := 6) C uwX6_follows_6 0 rfl rfl 40 (by decide) kwX6_follows_4 (v := .ref (a 40)) rfl dX6_follows_97 ?_
        refine r_iconst (v := 0) C dX6_follows_100 (by decide) ?_
        refine r_iconst (v := 1) C dX6_follows_101 (by decide) ?_
        obtain ⟨hi19, h⟩ := h
        obtain ⟨S20, hS20⟩ : ∃ z : RS, z = sA S18 40 (upd (S18.2.1 40) (0 : Int32).toNatClampNeg (vp_nar .boolean 1)) := ⟨_, rfl⟩
        have h := h S20 hS20
        refine r_zast (ws' := mW g a S20) C 24 rfl hi19 dX6_follows_102 (by rw [hS20]; rfl) ?_
        refine r_iconst (v := 1) C dX6_follows_103 (by decide) ?_
        refine r_istore (lv' := [(0, .ref (a 50)), (3, .int x10), (4, .int x11), (5, .int 1)]) C dX6_follows_104 [some 0, some 1, some 2, none] (by decide) rfl rfl ?_
        refine r_iconst (v := 0) C dX6_follows_106 (by decide) ?_
        refine r_istore (lv' := [(0, .ref (a 50)), (3, .int x10), (4, .int x11), (5, .int 1), (6, .int 0)]) C dX6_follows_107 [some 0, some 1, some 2, some 3, none] (by decide) rfl rfl ?_
        refine wfX6_follows_109 C hZ (fun S48 h => ?_) N _ _ _ h
        refine r_iconst (v := 1) C dX6_follows_247 (by decide) ?_
        exact r_iret C hZ (u := S48) h rfl dX6_follows_248
      · have h := h.2 c5
        refine r_iconst (v := (-1)) C dX6_follows_26 (by decide) ?_
        exact r_iret C hZ (u := S) h rfl dX6_follows_27
def rmX6_mayBe : Room := { frames := 0, cells := 0, slots := 0, locals := 0 }
theorem kwX6_mayBe_0 : Cond.fieldLink RX6 13 "WantsBenchModel" "sort" "[I" ∈ wsX6_mayBe := by decide +kernel
theorem uwX6_mayBe_6 : ∀ w ∈ wsX60, w ∈ wsX6_mayBe := by decide +kernel
theorem kwX6_mayBe_2 : Cond.fieldLink RX6 16 "WantsBenchModel" "number" "[I" ∈ wsX6_mayBe := by decide +kernel
def fX6_mayBe_31 (N : Nat) (S : RS) (v1 : Int32) (v2 : Int32) (Q : Int32 → Prop) : Prop :=
  (vp_in v1 20 ∧ ((¬ (S.2.1 3 v1.toNatClampNeg) = 2 → Q 0) ∧ ((S.2.1 3 v1.toNatClampNeg) = 2 → (vp_in v1 20 ∧ ((((S.2.1 4 v1.toNatClampNeg) - v2) < 0 → Q 0) ∧ (¬ ((S.2.1 4 v1.toNatClampNeg) - v2) < 0 → Q 1))))))
set_option maxRecDepth 100000 in
set_option maxHeartbeats 4000000 in
theorem wfX6_mayBe_31 {x : Nx} {g : Gx} {W0 : va_W} {a : Nat → Nat} {S : RS} {N : Nat} {v1 : Int32} {v2 : Int32} {Q : Int32 → Prop} (C : Cx x g cX6_mayBe RX6 wsX6_mayBe rmX6_mayBe yX6_mayBe (some .boolean) 3) (hZ : Zq x g W0 (fun _ : Unit => mW g a S) (qI (fun (r : Int32) (_ : Unit) => Q r)) 0 0) (h : fX6_mayBe_31 N S v1 v2 Q) : St x 0 0 (mW g a S) [(0, .ref (a 50)), (1, .int v1), (2, .int v2)] [] 31 := by
  unfold fX6_mayBe_31 at h
  refine r_aload_n C dX6_mayBe_31 rfl ?_
  refine r_get (cn := RX6) (T := TX6) (N := 43) (ci := 6) C uwX6_mayBe_6 0 rfl rfl 3 (by decide) kwX6_mayBe_0 (v := .ref (a 3)) rfl dX6_mayBe_32 ?_
  refine r_iload_n C dX6_mayBe_35 rfl ?_
  obtain ⟨hi5, h⟩ := h
  refine r_iald C 2 rfl hi5 dX6_mayBe_36 ?_
  refine r_iconst (v := 2) C dX6_mayBe_37 (by decide) ?_
  refine r_icmp_ne (tgt := 56) C dX6_mayBe_38 (by decide) (fun c6 => ?_) (fun c6 => ?_)
  · have h := h.1 c6
    refine r_iconst (v := 0) C dX6_mayBe_56 (by decide) ?_
    exact r_zret C hZ (u := ()) (by decide) h rfl dX6_mayBe_57
  · have h := h.2 c6
    refine r_aload_n C dX6_mayBe_41 rfl ?_
    refine r_get (cn := RX6) (T := TX6) (N := 43) (ci := 6) C uwX6_mayBe_6 0 rfl rfl 4 (by decide) kwX6_mayBe_2 (v := .ref (a 4)) rfl dX6_mayBe_42 ?_
    refine r_iload_n C dX6_mayBe_45 rfl ?_
    obtain ⟨hi7, h⟩ := h
    refine r_iald C 3 rfl hi7 dX6_mayBe_46 ?_
    refine r_iload_n C dX6_mayBe_47 rfl ?_
    refine r_isub C dX6_mayBe_48 ?_
    refine r_if_lt (tgt := 56) C dX6_mayBe_49 (by decide) (fun c8 => ?_) (fun c8 => ?_)
    · have h := h.1 c8
      refine r_iconst (v := 0) C dX6_mayBe_56 (by decide) ?_
      exact r_zret C hZ (u := ()) (by decide) h rfl dX6_mayBe_57
    · have h := h.2 c8
      refine r_iconst (v := 1) C dX6_mayBe_52 (by decide) ?_
      refine r_goto (tgt := 57) C dX6_mayBe_53 (by decide) ?_
      exact r_zret C hZ (u := ()) (by decide) h rfl dX6_mayBe_57
def fX6_mayBe (N : Nat) (S : RS) (v1 : Int32) (v2 : Int32) (Q : Int32 → Prop) : Prop :=
  ((v2 = 0 → Q 1) ∧ (¬ v2 = 0 → ((v2 = 4 → Q 1) ∧ (¬ v2 = 4 → (vp_in v1 20 ∧ ((¬ (S.2.1 3 v1.toNatClampNeg) = 1 → (fX6_mayBe_31 N S v1 v2 Q)) ∧ ((S.2.1 3 v1.toNatClampNeg) = 1 → (vp_in v1 20 ∧ ((((S.2.1 4 v1.toNatClampNeg) + v2) ≤ 3 → Q 1) ∧ (¬ ((S.2.1 4 v1.toNatClampNeg) + v2) ≤ 3 → (fX6_mayBe_31 N S v1 v2 Q)))))))))))
set_option maxRecDepth 100000 in
set_option maxHeartbeats 4000000 in
theorem tX6_mayBe (l : Launch) (g : Gx) (a : Nat → Nat) (S : RS) (N : Nat) (v1 : Int32) (v2 : Int32) (Q : Int32 → Prop) (h : fX6_mayBe N S v1 v2 Q) : MetG l g yX6_mayBe wsX6_mayBe rmX6_mayBe [.ref (a 50), .int v1, .int v2] (mW g a S) (fun _ : Unit => mW g a S) (qI (fun (r : Int32) (_ : Unit) => Q r)) 0 0 := by
  refine met_of (cc := cX6_mayBe) (own := RX6) (nL := 3) (ret := (some .boolean)) (lv := [(0, .ref (a 50)), (1, .int v1), (2, .int v2)]) (by decide) rfl rfl (Nat.le_of_ble_eq_true rfl) rfl ?_
  intro x C hl hZ
  subst hl
  unfold fX6_mayBe at h
  refine r_iload_n C dX6_mayBe_0 rfl ?_
  refine r_if_eq (tgt := 52) C dX6_mayBe_1 (by decide) (fun c1 => ?_) (fun c1 => ?_)
  · have h := h.1 c1
    refine r_iconst (v := 1) C dX6_mayBe_52 (by decide) ?_
    refine r_goto (tgt := 57) C dX6_mayBe_53 (by decide) ?_
    exact r_zret C hZ (u := ()) (by decide) h rfl dX6_mayBe_57
  · have h := h.2 c1
    refine r_iload_n C dX6_mayBe_4 rfl ?_
    refine r_iconst (v := 4) C dX6_mayBe_5 (by decide) ?_
    refine r_icmp_eq (tgt := 52) C dX6_mayBe_6 (by decide) (fun c2 => ?_) (fun c2 => ?_)
    · have h := h.1 c2
      refine r_iconst (v := 1) C dX6_mayBe_52 (by decide) ?_
      refine r_goto (tgt := 57) C dX6_mayBe_53 (by decide) ?_
      exact r_zret C hZ (u := ()) (by decide) h rfl dX6_mayBe_57
    · have h := h.2 c2
      refine r_aload_n C dX6_mayBe_9 rfl ?_
      refine r_get (cn := RX6) (T := TX6) (N := 43) (ci := 6) C uwX6_mayBe_6 0 rfl rfl 3 (by decide) kwX6_mayBe_0 (v := .ref (a 3)) rfl dX6_mayBe_10 ?_
      refine r_iload_n C dX6_mayBe_13 rfl ?_
      obtain ⟨hi3, h⟩ := h
      refine r_iald C 2 rfl hi3 dX6_mayBe_14 ?_
      refine r_iconst (v := 1) C dX6_mayBe_15 (by decide) ?_
      refine r_icmp_ne (tgt := 31) C dX6_mayBe_16 (by decide) (fun c4 => ?_) (fun c4 => ?_)
      · have h := h.1 c4
        exact wfX6_mayBe_31 C hZ h
      · have h := h.2 c4
        refine r_aload_n C dX6_mayBe_19 rfl ?_
        refine r_get (cn := RX6) (T := TX6) (N := 43) (ci := 6) C uwX6_mayBe_6 0 rfl rfl 4 (by decide) kwX6_mayBe_2 (v := .ref (a 4)) rfl dX6_mayBe_20 ?_
        refine r_iload_n C dX6_mayBe_23 rfl ?_
        obtain ⟨hi9, h⟩ := h
        refine r_iald C 3 rfl hi9 dX6_mayBe_24 ?_
        refine r_iload_n C dX6_mayBe_25 rfl ?_
        refine r_iadd C dX6_mayBe_26 ?_
        refine r_iconst (v := 3) C dX6_mayBe_27 (by decide) ?_
        refine r_icmp_le (tgt := 52) C dX6_mayBe_28 (by decide) (fun c10 => ?_) (fun c10 => ?_)
        · have h := h.1 c10
          refine r_iconst (v := 1) C dX6_mayBe_52 (by decide) ?_
          refine r_goto (tgt := 57) C dX6_mayBe_53 (by decide) ?_
          exact r_zret C hZ (u := ()) (by decide) h rfl dX6_mayBe_57
        · have h := h.2 c10
          exact wfX6_mayBe_31 C hZ h
