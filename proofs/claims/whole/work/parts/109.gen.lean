def rmX6_isThere : Room := { frames := 0, cells := 0, slots := 0, locals := 0 }
theorem kwX6_isThere_0 : Cond.fieldLink RX6 35 "WantsBenchModel" "read" "[I" ∈ wsX6_isThere := by decide +kernel
theorem uwX6_isThere_6 : ∀ w ∈ wsX60, w ∈ wsX6_isThere := by decide +kernel
theorem kwX6_isThere_2 : Cond.fieldLink RX6 38 "WantsBenchModel" "givenUp" "[I" ∈ wsX6_isThere := by decide +kernel
def fX6_isThere (N : Nat) (S : RS) (v1 : Int32) (v2 : Int32) (Q : Int32 → Prop) : Prop :=
  (vp_in v1 20 ∧ ((v2 < (S.2.1 10 v1.toNatClampNeg) → Q 0) ∧ (¬ v2 < (S.2.1 10 v1.toNatClampNeg) → (vp_in v1 20 ∧ (((S.2.1 11 v1.toNatClampNeg) < 0 → Q 1) ∧ (¬ (S.2.1 11 v1.toNatClampNeg) < 0 → (vp_in v1 20 ∧ (((S.2.1 11 v1.toNatClampNeg) ≤ v2 → Q 0) ∧ (¬ (S.2.1 11 v1.toNatClampNeg) ≤ v2 → Q 1)))))))))
set_option maxRecDepth 100000 in
set_option maxHeartbeats 4000000 in
theorem tX6_isThere (l : Launch) (g : Gx) (a : Nat → Nat) (S : RS) (N : Nat) (v1 : Int32) (v2 : Int32) (Q : Int32 → Prop) (h : fX6_isThere N S v1 v2 Q) : MetG l g yX6_isThere wsX6_isThere rmX6_isThere [.ref (a 50), .int v1, .int v2] (mW g a S) (fun _ : Unit => mW g a S) (qI (fun (r : Int32) (_ : Unit) => Q r)) 0 0 := by
  refine met_of (cc := cX6_isThere) (own := RX6) (nL := 3) (ret := (some .boolean)) (lv := [(0, .ref (a 50)), (1, .int v1), (2, .int v2)]) (by decide) rfl rfl (Nat.le_of_ble_eq_true rfl) rfl ?_
  intro x C hl hZ
  subst hl
  unfold fX6_isThere at h
  refine r_aload_n C dX6_isThere_0 rfl ?_
  refine r_get (cn := RX6) (T := TX6) (N := 43) (ci := 6) C uwX6_isThere_6 0 rfl rfl 10 (by decide) kwX6_isThere_0 (v := .ref (a 10)) rfl dX6_isThere_1 ?_
  refine r_iload_n C dX6_isThere_4 rfl ?_
  obtain ⟨hi1, h⟩ := h
  refine r_iald C 9 rfl hi1 dX6_isThere_5 ?_
  refine r_iload_n C dX6_isThere_6 rfl ?_
  refine r_icmp_gt (tgt := 33) C dX6_isThere_7 (by decide) (fun c2 => ?_) (fun c2 => ?_)
  · have h := h.1 c2
    refine r_iconst (v := 0) C dX6_isThere_33 (by decide) ?_
    exact r_zret C hZ (u := ()) (by decide) h rfl dX6_isThere_34
  · have h := h.2 c2
    refine r_aload_n C dX6_isThere_10 rfl ?_
    refine r_get (cn := RX6) (T := TX6) (N := 43) (ci := 6) C uwX6_isThere_6 0 rfl rfl 11 (by decide) kwX6_isThere_2 (v := .ref (a 11)) rfl dX6_isThere_11 ?_
    refine r_iload_n C dX6_isThere_14 rfl ?_
    obtain ⟨hi3, h⟩ := h
    refine r_iald C 10 rfl hi3 dX6_isThere_15 ?_
    refine r_if_lt (tgt := 29) C dX6_isThere_16 (by decide) (fun c4 => ?_) (fun c4 => ?_)
    · have h := h.1 c4
      refine r_iconst (v := 1) C dX6_isThere_29 (by decide) ?_
      refine r_goto (tgt := 34) C dX6_isThere_30 (by decide) ?_
      exact r_zret C hZ (u := ()) (by decide) h rfl dX6_isThere_34
    · have h := h.2 c4
      refine r_aload_n C dX6_isThere_19 rfl ?_
      refine r_get (cn := RX6) (T := TX6) (N := 43) (ci := 6) C uwX6_isThere_6 0 rfl rfl 11 (by decide) kwX6_isThere_2 (v := .ref (a 11)) rfl dX6_isThere_20 ?_
      refine r_iload_n C dX6_isThere_23 rfl ?_
      obtain ⟨hi5, h⟩ := h
      refine r_iald C 10 rfl hi5 dX6_isThere_24 ?_
      refine r_iload_n C dX6_isThere_25 rfl ?_
      refine r_icmp_le (tgt := 33) C dX6_isThere_26 (by decide) (fun c6 => ?_) (fun c6 => ?_)
      · have h := h.1 c6
        refine r_iconst (v := 0) C dX6_isThere_33 (by decide) ?_
        exact r_zret C hZ (u := ()) (by decide) h rfl dX6_isThere_34
      · have h := h.2 c6
        refine r_iconst (v := 1) C dX6_isThere_29 (by decide) ?_
        refine r_goto (tgt := 34) C dX6_isThere_30 (by decide) ?_
        exact r_zret C hZ (u := ()) (by decide) h rfl dX6_isThere_34
def rmX6_countBits : Room := { frames := 0, cells := 0, slots := 0, locals := 0 }
def fX6_countBits_4b (N : Nat) (v0 : Int32) (v1 : Int32) (v2 : Int32) (R : Int32 → Int32 → Prop) (K : Int32 → Prop) (Q : Int32 → Prop) : Prop :=
  ((20 ≤ v2 → K v1) ∧ (¬ 20 ≤ v2 → (∀ x2 : Int32, x2 = v1 + ((v0 >>> (v2 &&& 31)) &&& (1 : Int32)) → (∀ x3 : Int32, x3 = v2 + 1 → R x2 x3))))
set_option maxRecDepth 100000 in
set_option maxHeartbeats 4000000 in
theorem wfX6_countBits_4b {x : Nx} {g : Gx} {W0 : va_W}   {N : Nat} {v0 : Int32} {v1 : Int32} {v2 : Int32} {R : Int32 → Int32 → Prop} {K : Int32 → Prop} {Q : Int32 → Prop} (C : Cx x g cX6_countBits RX6 wsX6_countBits rmX6_countBits yX6_countBits (some .int) 3) (hZ : Zq x g W0 (fun _ : Unit => ([] : va_W)) (qI (fun (r : Int32) (_ : Unit) => Q r)) 0 0) (hR : ∀ (w1 : Int32) (w2 : Int32), R w1 w2 → St x 0 0 (([] : va_W)) [(0, .int v0), (1, .int w1), (2, .int w2)] [] 4) (hK : ∀ (w1 : Int32), K w1 → St x 0 0 (([] : va_W)) [(1, .int w1)] [] 24) (h : fX6_countBits_4b N v0 v1 v2 R K Q) : St x 0 0 (([] : va_W)) [(0, .int v0), (1, .int v1), (2, .int v2)] [] 4 := by
  unfold fX6_countBits_4b at h
  refine r_iload_n C dX6_countBits_4 rfl ?_
  refine r_bipush (v := 20) C dX6_countBits_5 (by decide) ?_
  refine r_icmp_ge (tgt := 24) C dX6_countBits_7 (by decide) (fun c1 => ?_) (fun c1 => ?_)
  · have h := h.1 c1
    refine r_sub [1] (lv' := [(1, .int v1)]) rfl ?_
    exact hK v1 h
  · have h := h.2 c1
    refine r_iload_n C dX6_countBits_10 rfl ?_
    refine r_iload_n C dX6_countBits_11 rfl ?_
    refine r_iload_n C dX6_countBits_12 rfl ?_
    refine r_ishr C dX6_countBits_13 ?_
    refine r_iconst (v := 1) C dX6_countBits_14 (by decide) ?_
    refine r_iand C dX6_countBits_15 ?_
    refine r_iadd C dX6_countBits_16 ?_
    refine r_topi (fun x2 ex2 => ?_)
    have h := h x2 ex2
    refine r_istore_n (lv' := [(0, .int v0), (1, .int x2), (2, .int v2)]) C dX6_countBits_17 [some 0, none, some 2] (by decide) rfl rfl ?_
    obtain ⟨x3, ex3⟩ : ∃ z : Int32, z = v2 + 1 := ⟨_, rfl⟩
    have h := h x3 ex3
    refine r_iinc (v := x3) (lv' := [(0, .int v0), (1, .int x2), (2, .int x3)]) C dX6_countBits_18 rfl (by rw [ex3]; rfl) [some 0, some 1, none] (by decide) rfl rfl ?_
    refine r_goto (tgt := 4) C dX6_countBits_21 (by decide) ?_
    exact hR x2 x3 h
def fX6_countBits_4 (N : Nat) (v0 : Int32) (K : Int32 → Prop) (Q : Int32 → Prop) : Nat → Int32 → Int32 → Prop
  | 0, _, _ => False
  | n + 1, v1, v2 => fX6_countBits_4b N v0 v1 v2 (fun v1 v2 => fX6_countBits_4 N v0 K Q n v1 v2) K Q
set_option maxRecDepth 100000 in
set_option maxHeartbeats 4000000 in
theorem wfX6_countBits_4 {x : Nx} {g : Gx} {W0 : va_W}   {N : Nat} {v0 : Int32} {K : Int32 → Prop} {Q : Int32 → Prop} (C : Cx x g cX6_countBits RX6 wsX6_countBits rmX6_countBits yX6_countBits (some .int) 3) (hZ : Zq x g W0 (fun _ : Unit => ([] : va_W)) (qI (fun (r : Int32) (_ : Unit) => Q r)) 0 0) (hK : ∀ (w1 : Int32), K w1 → St x 0 0 (([] : va_W)) [(1, .int w1)] [] 24) : ∀ (n : Nat) (v1 : Int32) (v2 : Int32), fX6_countBits_4 N v0 K Q n v1 v2 → St x 0 0 (([] : va_W)) [(0, .int v0), (1, .int v1), (2, .int v2)] [] 4 := by
  intro n
  induction n with
  | zero => intro v1 v2 h; exact False.elim h
  | succ n ih => intro v1 v2 h; exact wfX6_countBits_4b C hZ ih hK h
def fX6_countBits (N : Nat) (v0 : Int32) (Q : Int32 → Prop) : Prop :=
  (fX6_countBits_4 N v0 (fun x4 => Q x4) Q N 0 0)
set_option maxRecDepth 100000 in
set_option maxHeartbeats 4000000 in
theorem tX6_countBits (l : Launch) (g : Gx) (N : Nat) (v0 : Int32) (Q : Int32 → Prop) (h : fX6_countBits N v0 Q) : MetG l g yX6_countBits wsX6_countBits rmX6_countBits [.int v0] (([] : va_W)) (fun _ : Unit => ([] : va_W)) (qI (fun (r : Int32) (_ : Unit) => Q r)) 0 0 := by
  refine met_of (cc := cX6_countBits) (own := RX6) (nL := 3) (ret := (some .int)) (lv := [(0, .int v0)]) (by decide) rfl rfl (Nat.le_of_ble_eq_true rfl) rfl ?_
  intro x C hl hZ
  subst hl
  unfold fX6_countBits at h
  refine r_iconst (v := 0) C dX6_countBits_0 (by decide) ?_
  refine r_istore_n (lv' := [(0, .int v0), (1, .int 0)]) C dX6_countBits_1 [some 0, none] (by decide) rfl rfl ?_
  refine r_iconst (v := 0) C dX6_countBits_2 (by decide) ?_
  refine r_istore_n (lv' := [(0, .int v0), (1, .int 0), (2, .int 0)]) C dX6_countBits_3 [some 0, some 1, none] (by decide) rfl rfl ?_
  refine wfX6_countBits_4 C hZ (fun x4 h => ?_) N _ _ h
  refine r_iload_n C dX6_countBits_24 rfl ?_
  exact r_iret C hZ (u := ()) h rfl dX6_countBits_25
def rmX6_about : Room := { frames := 1, cells := 0, slots := 0, locals := 22 }
theorem kwX6_about_0 : Cond.fieldLink RX6 13 "WantsBenchModel" "sort" "[I" ∈ wsX6_about := by decide +kernel
theorem uwX6_about_6 : ∀ w ∈ wsX60, w ∈ wsX6_about := by decide +kernel
theorem kwX6_about_2 : Cond.fieldLink RX6 16 "WantsBenchModel" "number" "[I" ∈ wsX6_about := by decide +kernel
theorem kwX6_about_3 : Cond.fieldLink RX6 26 "WantsBenchModel" "owner" "[I" ∈ wsX6_about := by decide +kernel
theorem kwX6_about_4 : Cond.fieldLink RX6 29 "WantsBenchModel" "worth" "[I" ∈ wsX6_about := by decide +kernel
theorem kwX6_about_5 : Cond.fieldLink RX6 32 "WantsBenchModel" "ease" "[I" ∈ wsX6_about := by decide +kernel
theorem kwX6_about_6 : Cond.fieldLink RX6 35 "WantsBenchModel" "read" "[I" ∈ wsX6_about := by decide +kernel
theorem kwX6_about_7 : Cond.fieldLink RX6 38 "WantsBenchModel" "givenUp" "[I" ∈ wsX6_about := by decide +kernel
theorem kwX6_about_8 : Cond.fieldLink RX6 75 "WantsBenchModel" "ledTo" "[I" ∈ wsX6_about := by decide +kernel
theorem kwX6_about_9 : Cond.fieldLink RX6 41 "WantsBenchModel" "bytes" "[I" ∈ wsX6_about := by decide +kernel
def fX6_about (N : Nat) (S : RS) (v1 : Int32) (v2 : Int32) (Q : Int32 → Prop) : Prop :=
  (fX6_isWant N S v1 (fun r1 => ((¬ r1 = 0 → (((v2.toInt < 0 ∨ 8 < v2.toInt) → Q (-1)) ∧ (v2 = 0 → (vp_in v1 20 ∧ Q (S.2.1 3 v1.toNatClampNeg))) ∧ (v2 = 1 → (vp_in v1 20 ∧ Q (S.2.1 4 v1.toNatClampNeg))) ∧ (v2 = 2 → (vp_in v1 20 ∧ Q (S.2.1 7 v1.toNatClampNeg))) ∧ (v2 = 3 → (vp_in v1 20 ∧ Q (S.2.1 8 v1.toNatClampNeg))) ∧ (v2 = 4 → (vp_in v1 20 ∧ Q (S.2.1 9 v1.toNatClampNeg))) ∧ (v2 = 5 → (vp_in v1 20 ∧ Q (S.2.1 10 v1.toNatClampNeg))) ∧ (v2 = 6 → (vp_in v1 20 ∧ Q (S.2.1 11 v1.toNatClampNeg))) ∧ (v2 = 7 → (vp_in v1 20 ∧ (fX6_countBits N (S.2.1 34 v1.toNatClampNeg) (fun r14 => Q r14)))) ∧ (v2 = 8 → (vp_in v1 20 ∧ Q (S.2.1 12 v1.toNatClampNeg))))) ∧ (r1 = 0 → Q (-1)))))
set_option maxRecDepth 100000 in
set_option maxHeartbeats 4000000 in
theorem tX6_about (l : Launch) (g : Gx) (a : Nat → Nat) (S : RS) (N : Nat) (v1 : Int32) (v2 : Int32) (Q : Int32 → Prop) (h : fX6_about N S v1 v2 Q) : MetG l g yX6_about wsX6_about rmX6_about [.ref (a 50), .int v1, .int v2] (mW g a S) (fun _ : Unit => mW g a S) (qI (fun (r : Int32) (_ : Unit) => Q r)) 0 0 := by
  refine met_of (cc := cX6_about) (own := RX6) (nL := 3) (ret := (some .int)) (lv := [(0, .ref (a 50)), (1, .int v1), (2, .int v2)]) (by decide) rfl rfl (Nat.le_of_ble_eq_true rfl) rfl ?_
  intro x C hl hZ
  subst hl
  unfold fX6_about at h
  refine r_aload_n C dX6_about_0 rfl ?_
  refine r_iload_n C dX6_about_1 rfl ?_
  refine callR_I C (run_V (As := [.int v1]) (rest := []) (ci := 6) C hZ.2.2 (tX6_isWant _ g a S N v1 _ h) gX6_about_X6_isWant rfl dsX6_isWant rfl rfl ⟨(Nat.le_of_ble_eq_true rfl), (Nat.le_of_ble_eq_true rfl)⟩ rfl (List.mem_of_getElem? (i := 0) rfl) rfl (Nat.le_of_ble_eq_true rfl) dX6_about_2 ⟨Nat.zero_le _, Nat.zero_le _⟩) (List.Sublist.refl _) (fun _ => rfl) (fun r1 _ h => ?_)
  refine r_if_ne (tgt := 10) C dX6_about_5 (by decide) (fun c2 => ?_) (fun c2 => ?_)
  · have h := h.1 c2
    refine r_iload_n C dX6_about_10 rfl ?_
    rcases sw_cases 8 v2 with hs3 | ⟨k4, hk5, hs3⟩
    · have h := h.1 hs3
      refine r_tableOut (tgt := 126) C dX6_about_11 hs3 (by decide) ?_
      refine r_iconst (v := (-1)) C dX6_about_126 (by decide) ?_
      exact r_iret C hZ (u := ()) h rfl dX6_about_127
    · match k4, hk5, hs3 with
      | 0, _, hs3 =>
        have h := h.2.1 hs3
        rw [hs3]
        refine r_tableIn (tgt := 60) C dX6_about_11 (by decide) (by decide) (off := 49) (by decide) (by decide) ?_
        refine r_aload_n C dX6_about_60 rfl ?_
        refine r_get (cn := RX6) (T := TX6) (N := 43) (ci := 6) C uwX6_about_6 0 rfl rfl 3 (by decide) kwX6_about_0 (v := .ref (a 3)) rfl dX6_about_61 ?_
        refine r_iload_n C dX6_about_64 rfl ?_
        obtain ⟨hi6, h⟩ := h
        refine r_iald C 2 rfl hi6 dX6_about_65 ?_
        exact r_iret C hZ (u := ()) h rfl dX6_about_66
      | 1, _, hs3 =>
        have h := h.2.2.1 hs3
        rw [hs3]
        refine r_tableIn (tgt := 67) C dX6_about_11 (by decide) (by decide) (off := 56) (by decide) (by decide) ?_
        refine r_aload_n C dX6_about_67 rfl ?_
        refine r_get (cn := RX6) (T := TX6) (N := 43) (ci := 6) C uwX6_about_6 0 rfl rfl 4 (by decide) kwX6_about_2 (v := .ref (a 4)) rfl dX6_about_68 ?_
        refine r_iload_n C dX6_about_71 rfl ?_
        obtain ⟨hi7, h⟩ := h
        refine r_iald C 3 rfl hi7 dX6_about_72 ?_
        exact r_iret C hZ (u := ()) h rfl dX6_about_73
      | 2, _, hs3 =>
        have h := h.2.2.2.1 hs3
        rw [hs3]
        refine r_tableIn (tgt := 74) C dX6_about_11 (by decide) (by decide) (off := 63) (by decide) (by decide) ?_
        refine r_aload_n C dX6_about_74 rfl ?_
        refine r_get (cn := RX6) (T := TX6) (N := 43) (ci := 6) C uwX6_about_6 0 rfl rfl 7 (by decide) kwX6_about_3 (v := .ref (a 7)) rfl dX6_about_75 ?_
        refine r_iload_n C dX6_about_78 rfl ?_
        obtain ⟨hi8, h⟩ := h
        refine r_iald C 6 rfl hi8 dX6_about_79 ?_
        exact r_iret C hZ (u := ()) h rfl dX6_about_80
      | 3, _, hs3 =>
        have h := h.2.2.2.2.1 hs3
        rw [hs3]
        refine r_tableIn (tgt := 81) C dX6_about_11 (by decide) (by decide) (off := 70) (by decide) (by decide) ?_
        refine r_aload_n C dX6_about_81 rfl ?_
        refine r_get (cn := RX6) (T := TX6) (N := 43) (ci := 6) C uwX6_about_6 0 rfl rfl 8 (by decide) kwX6_about_4 (v := .ref (a 8)) rfl dX6_about_82 ?_
        refine r_iload_n C dX6_about_85 rfl ?_
        obtain ⟨hi9, h⟩ := h
        refine r_iald C 7 rfl hi9 dX6_about_86 ?_
        exact r_iret C hZ (u := ()) h rfl dX6_about_87
      | 4, _, hs3 =>
        have h := h.2.2.2.2.2.1 hs3
        rw [hs3]
        refine r_tableIn (tgt := 88) C dX6_about_11 (by decide) (by decide) (off := 77) (by decide) (by decide) ?_
        refine r_aload_n C dX6_about_88 rfl ?_
        refine r_get (cn := RX6) (T := TX6) (N := 43) (ci := 6) C uwX6_about_6 0 rfl rfl 9 (by decide) kwX6_about_5 (v := .ref (a 9)) rfl dX6_about_89 ?_
        refine r_iload_n C dX6_about_92 rfl ?_
        obtain ⟨hi10, h⟩ := h
        refine r_iald C 8 rfl hi10 dX6_about_93 ?_
        exact r_iret C hZ (u := ()) h rfl dX6_about_94
      | 5, _, hs3 =>
        have h := h.2.2.2.2.2.2.1 hs3
        rw [hs3]
        refine r_tableIn (tgt := 95) C dX6_about_11 (by decide) (by decide) (off := 84) (by decide) (by decide) ?_
        refine r_aload_n C dX6_about_95 rfl ?_
        refine r_get (cn := RX6) (T := TX6) (N := 43) (ci := 6) C uwX6_about_6 0 rfl rfl 10 (by decide) kwX6_about_6 (v := .ref (a 10)) rfl dX6_about_96 ?_
        refine r_iload_n C dX6_about_99 rfl ?_
        obtain ⟨hi11, h⟩ := h
        refine r_iald C 9 rfl hi11 dX6_about_100 ?_
        exact r_iret C hZ (u := ()) h rfl dX6_about_101
      | 6, _, hs3 =>
        have h := h.2.2.2.2.2.2.2.1 hs3
        rw [hs3]
        refine r_tableIn (tgt := 102) C dX6_about_11 (by decide) (by decide) (off := 91) (by decide) (by decide) ?_
        refine r_aload_n C dX6_about_102 rfl ?_
        refine r_get (cn := RX6) (T := TX6) (N := 43) (ci := 6) C uwX6_about_6 0 rfl rfl 11 (by decide) kwX6_about_7 (v := .ref (a 11)) rfl dX6_about_103 ?_
        refine r_iload_n C dX6_about_106 rfl ?_
        obtain ⟨hi12, h⟩ := h
        refine r_iald C 10 rfl hi12 dX6_about_107 ?_
        exact r_iret C hZ (u := ()) h rfl dX6_about_108
      | 7, _, hs3 =>
        have h := h.2.2.2.2.2.2.2.2.1 hs3
        rw [hs3]
        refine r_tableIn (tgt := 109) C dX6_about_11 (by decide) (by decide) (off := 98) (by decide) (by decide) ?_
        refine r_aload_n C dX6_about_109 rfl ?_
        refine r_get (cn := RX6) (T := TX6) (N := 43) (ci := 6) C uwX6_about_6 0 rfl rfl 34 (by decide) kwX6_about_8 (v := .ref (a 34)) rfl dX6_about_110 ?_
        refine r_iload_n C dX6_about_113 rfl ?_
        obtain ⟨hi13, h⟩ := h
        refine r_iald C 22 rfl hi13 dX6_about_114 ?_
        refine callR_I C (run_S (As := [.int (S.2.1 34 v1.toNatClampNeg)]) (rest := []) C hZ.2.2 (tX6_countBits _ g N (S.2.1 34 v1.toNatClampNeg) _ h) gX6_about_X6_countBits rfl dsX6_countBits rfl rfl ⟨(Nat.le_of_ble_eq_true rfl), (Nat.le_of_ble_eq_true rfl)⟩ rfl (Nat.le_of_ble_eq_true rfl) dX6_about_115 ⟨Nat.zero_le _, Nat.zero_le _⟩) (List.nil_sublist _) (fun _ => rfl) (fun r14 _ h => ?_)
        exact r_iret C hZ (u := ()) h rfl dX6_about_118
      | 8, _, hs3 =>
        have h := h.2.2.2.2.2.2.2.2.2 hs3
        rw [hs3]
        refine r_tableIn (tgt := 119) C dX6_about_11 (by decide) (by decide) (off := 108) (by decide) (by decide) ?_
        refine r_aload_n C dX6_about_119 rfl ?_
        refine r_get (cn := RX6) (T := TX6) (N := 43) (ci := 6) C uwX6_about_6 0 rfl rfl 12 (by decide) kwX6_about_9 (v := .ref (a 12)) rfl dX6_about_120 ?_
        refine r_iload_n C dX6_about_123 rfl ?_
        obtain ⟨hi15, h⟩ := h
        refine r_iald C 11 rfl hi15 dX6_about_124 ?_
        exact r_iret C hZ (u := ()) h rfl dX6_about_125
      | k4 + 9, hk5, _ => exact absurd hk5 (by omega)
  · have h := h.2 c2
    refine r_iconst (v := (-1)) C dX6_about_8 (by decide) ?_
    exact r_iret C hZ (u := ()) h rfl dX6_about_9
def rmX6_holds : Room := { frames := 1, cells := 0, slots := 0, locals := 22 }
theorem kwX6_holds_0 : Cond.fieldLink RX6 13 "WantsBenchModel" "sort" "[I" ∈ wsX6_holds := by decide +kernel
theorem uwX6_holds_6 : ∀ w ∈ wsX60, w ∈ wsX6_holds := by decide +kernel
theorem kwX6_holds_2 : Cond.fieldLink RX6 23 "WantsBenchModel" "second" "[J" ∈ wsX6_holds := by decide +kernel
theorem kwX6_holds_3 : Cond.fieldLink RX6 19 "WantsBenchModel" "first" "[J" ∈ wsX6_holds := by decide +kernel
def fX6_holds_72 (N : Nat) (S : RS) (v3 : Int32) (v4 : Int32) (k0 : Int64) (Q : Int32 → Prop) : Prop :=
  Q (((k0 >>> ((((8 : Int32) * v3) + v4).toInt64 &&& 63)) &&& (1 : Int64)).toInt32)
set_option maxRecDepth 100000 in
set_option maxHeartbeats 4000000 in
theorem wfX6_holds_72 {x : Nx} {g : Gx} {W0 : va_W} {a : Nat → Nat} {S : RS} {N : Nat} {v3 : Int32} {v4 : Int32} {k0 : Int64} {Q : Int32 → Prop} (C : Cx x g cX6_holds RX6 wsX6_holds rmX6_holds yX6_holds (some .int) 5) (hZ : Zq x g W0 (fun _ : Unit => mW g a S) (qI (fun (r : Int32) (_ : Unit) => Q r)) 0 0) (h : fX6_holds_72 N S v3 v4 k0 Q) : St x 0 0 (mW g a S) [(3, .int v3), (4, .int v4)] [.long k0] 72 := by
  unfold fX6_holds_72 at h
  refine r_bipush (v := 8) C dX6_holds_72 (by decide) ?_
  refine r_iload_n C dX6_holds_74 rfl ?_
  refine r_imul C dX6_holds_75 ?_
  refine r_iload C dX6_holds_76 rfl ?_
  refine r_iadd C dX6_holds_78 ?_
  refine r_lshr C dX6_holds_79 ?_
  refine r_lconst (v := 1) C dX6_holds_80 (by decide) ?_
  refine r_land C dX6_holds_81 ?_
  refine r_l2i C dX6_holds_82 ?_
  exact r_iret C hZ (u := ()) h rfl dX6_holds_83
def fX6_holds_24 (N : Nat) (S : RS) (v1 : Int32) (v2 : Int32) (v3 : Int32) (v4 : Int32) (k0 : Int32) (k1 : Int32) (k2 : Int32) (Q : Int32 → Prop) : Prop :=
  (fX6_within N k0 k1 k2 (fun r5 => ((r5 = 0 → Q (-1)) ∧ (¬ r5 = 0 → (fX6_within N v3 0 7 (fun r7 => ((r7 = 0 → Q (-1)) ∧ (¬ r7 = 0 → (fX6_within N v4 0 7 (fun r9 => ((¬ r9 = 0 → ((¬ v2 = 0 → (vp_in v1 20 ∧ (fX6_holds_72 N S v3 v4 (S.2.2.2 6 v1.toNatClampNeg) Q))) ∧ (v2 = 0 → (vp_in v1 20 ∧ (fX6_holds_72 N S v3 v4 (S.2.2.2 5 v1.toNatClampNeg) Q))))) ∧ (r9 = 0 → Q (-1)))))))))))))
set_option maxRecDepth 100000 in
set_option maxHeartbeats 4000000 in
theorem wfX6_holds_24 {x : Nx} {g : Gx} {W0 : va_W} {a : Nat → Nat} {S : RS} {N : Nat} {v1 : Int32} {v2 : Int32} {v3 : Int32} {v4 : Int32} {k0 : Int32} {k1 : Int32} {k2 : Int32} {Q : Int32 → Prop} (C : Cx x g cX6_holds RX6 wsX6_holds rmX6_holds yX6_holds (some .int) 5) (hZ : Zq x g W0 (fun _ : Unit => mW g a S) (qI (fun (r : Int32) (_ : Unit) => Q r)) 0 0) (h : fX6_holds_24 N S v1 v2 v3 v4 k0 k1 k2 Q) : St x 0 0 (mW g a S) [(0, .ref (a 50)), (1, .int v1), (2, .int v2), (3, .int v3), (4, .int v4)] [.int k2, .int k1, .int k0] 24 := by
  unfold fX6_holds_24 at h
  refine callR_I C (run_S (As := [.int k0, .int k1, .int k2]) (rest := []) C hZ.2.2 (tX6_within _ g N k0 k1 k2 _ h) gX6_holds_X6_within rfl dsX6_within rfl rfl ⟨(Nat.le_of_ble_eq_true rfl), (Nat.le_of_ble_eq_true rfl)⟩ rfl (Nat.le_of_ble_eq_true rfl) dX6_holds_24 ⟨Nat.zero_le _, Nat.zero_le _⟩) (List.nil_sublist _) (fun _ => rfl) (fun r5 _ h => ?_)
  refine r_if_eq (tgt := 51) C dX6_holds_27 (by decide) (fun c6 => ?_) (fun c6 => ?_)
  · have h := h.1 c6
    refine r_iconst (v := (-1)) C dX6_holds_51 (by decide) ?_
    exact r_iret C hZ (u := ()) h rfl dX6_holds_52
  · have h := h.2 c6
    refine r_iload_n C dX6_holds_30 rfl ?_
    refine r_iconst (v := 0) C dX6_holds_31 (by decide) ?_
    refine r_bipush (v := 7) C dX6_holds_32 (by decide) ?_
    refine callR_I C (run_S (As := [.int v3, .int 0, .int 7]) (rest := []) C hZ.2.2 (tX6_within _ g N v3 0 7 _ h) gX6_holds_X6_within rfl dsX6_within rfl rfl ⟨(Nat.le_of_ble_eq_true rfl), (Nat.le_of_ble_eq_true rfl)⟩ rfl (Nat.le_of_ble_eq_true rfl) dX6_holds_34 ⟨Nat.zero_le _, Nat.zero_le _⟩) (List.nil_sublist _) (fun _ => rfl) (fun r7 _ h => ?_)
    refine r_if_eq (tgt := 51) C dX6_holds_37 (by decide) (fun c8 => ?_) (fun c8 => ?_)
    · have h := h.1 c8
      refine r_iconst (v := (-1)) C dX6_holds_51 (by decide) ?_
      exact r_iret C hZ (u := ()) h rfl dX6_holds_52
    · have h := h.2 c8
      refine r_iload C dX6_holds_40 rfl ?_
      refine r_iconst (v := 0) C dX6_holds_42 (by decide) ?_
      refine r_bipush (v := 7) C dX6_holds_43 (by decide) ?_
      refine callR_I C (run_S (As := [.int v4, .int 0, .int 7]) (rest := []) C hZ.2.2 (tX6_within _ g N v4 0 7 _ h) gX6_holds_X6_within rfl dsX6_within rfl rfl ⟨(Nat.le_of_ble_eq_true rfl), (Nat.le_of_ble_eq_true rfl)⟩ rfl (Nat.le_of_ble_eq_true rfl) dX6_holds_45 ⟨Nat.zero_le _, Nat.zero_le _⟩) (List.nil_sublist _) (fun _ => rfl) (fun r9 _ h => ?_)
      refine r_if_ne (tgt := 53) C dX6_holds_48 (by decide) (fun c10 => ?_) (fun c10 => ?_)
      · have h := h.1 c10
        refine r_iload_n C dX6_holds_53 rfl ?_
        refine r_if_ne (tgt := 66) C dX6_holds_54 (by decide) (fun c11 => ?_) (fun c11 => ?_)
        · have h := h.1 c11
          refine r_aload_n C dX6_holds_66 rfl ?_
          refine r_get (cn := RX6) (T := TX6) (N := 43) (ci := 6) C uwX6_holds_6 0 rfl rfl 6 (by decide) kwX6_holds_2 (v := .ref (a 6)) rfl dX6_holds_67 ?_
          refine r_iload_n C dX6_holds_70 rfl ?_
          obtain ⟨hi12, h⟩ := h
          refine r_lald C 5 rfl hi12 dX6_holds_71 ?_
          refine r_sub [3, 4] (lv' := [(3, .int v3), (4, .int v4)]) rfl ?_
          exact wfX6_holds_72 C hZ h
        · have h := h.2 c11
          refine r_aload_n C dX6_holds_57 rfl ?_
          refine r_get (cn := RX6) (T := TX6) (N := 43) (ci := 6) C uwX6_holds_6 0 rfl rfl 5 (by decide) kwX6_holds_3 (v := .ref (a 5)) rfl dX6_holds_58 ?_
          refine r_iload_n C dX6_holds_61 rfl ?_
          obtain ⟨hi13, h⟩ := h
          refine r_lald C 4 rfl hi13 dX6_holds_62 ?_
          refine r_goto (tgt := 72) C dX6_holds_63 (by decide) ?_
          refine r_sub [3, 4] (lv' := [(3, .int v3), (4, .int v4)]) rfl ?_
          exact wfX6_holds_72 C hZ h
      · have h := h.2 c10
        refine r_iconst (v := (-1)) C dX6_holds_51 (by decide) ?_
        exact r_iret C hZ (u := ()) h rfl dX6_holds_52
def fX6_holds (N : Nat) (S : RS) (v1 : Int32) (v2 : Int32) (v3 : Int32) (v4 : Int32) (Q : Int32 → Prop) : Prop :=
  (fX6_isWant N S v1 (fun r1 => ((r1 = 0 → Q (-1)) ∧ (¬ r1 = 0 → (vp_in v1 20 ∧ ((¬ (S.2.1 3 v1.toNatClampNeg) = 0 → (fX6_holds_24 N S v1 v2 v3 v4 v2 0 1 Q)) ∧ ((S.2.1 3 v1.toNatClampNeg) = 0 → (fX6_holds_24 N S v1 v2 v3 v4 v2 0 0 Q))))))))
set_option maxRecDepth 100000 in
set_option maxHeartbeats 4000000 in
theorem tX6_holds (l : Launch) (g : Gx) (a : Nat → Nat) (S : RS) (N : Nat) (v1 : Int32) (v2 : Int32) (v3 : Int32) (v4 : Int32) (Q : Int32 → Prop) (h : fX6_holds N S v1 v2 v3 v4 Q) : MetG l g yX6_holds wsX6_holds rmX6_holds [.ref (a 50), .int v1, .int v2, .int v3, .int v4] (mW g a S) (fun _ : Unit => mW g a S) (qI (fun (r : Int32) (_ : Unit) => Q r)) 0 0 := by
  refine met_of (cc := cX6_holds) (own := RX6) (nL := 5) (ret := (some .int)) (lv := [(0, .ref (a 50)), (1, .int v1), (2, .int v2), (3, .int v3), (4, .int v4)]) (by decide) rfl rfl (Nat.le_of_ble_eq_true rfl) rfl ?_
  intro x C hl hZ
  subst hl
  unfold fX6_holds at h
  refine r_aload_n C dX6_holds_0 rfl ?_
  refine r_iload_n C dX6_holds_1 rfl ?_
  refine callR_I C (run_V (As := [.int v1]) (rest := []) (ci := 6) C hZ.2.2 (tX6_isWant _ g a S N v1 _ h) gX6_holds_X6_isWant rfl dsX6_isWant rfl rfl ⟨(Nat.le_of_ble_eq_true rfl), (Nat.le_of_ble_eq_true rfl)⟩ rfl (List.mem_of_getElem? (i := 0) rfl) rfl (Nat.le_of_ble_eq_true rfl) dX6_holds_2 ⟨Nat.zero_le _, Nat.zero_le _⟩) (List.Sublist.refl _) (fun _ => rfl) (fun r1 _ h => ?_)
  refine r_if_eq (tgt := 51) C dX6_holds_5 (by decide) (fun c2 => ?_) (fun c2 => ?_)
  · have h := h.1 c2
    refine r_iconst (v := (-1)) C dX6_holds_51 (by decide) ?_
    exact r_iret C hZ (u := ()) h rfl dX6_holds_52
  · have h := h.2 c2
    refine r_iload_n C dX6_holds_8 rfl ?_
    refine r_iconst (v := 0) C dX6_holds_9 (by decide) ?_
    refine r_aload_n C dX6_holds_10 rfl ?_
    refine r_get (cn := RX6) (T := TX6) (N := 43) (ci := 6) C uwX6_holds_6 0 rfl rfl 3 (by decide) kwX6_holds_0 (v := .ref (a 3)) rfl dX6_holds_11 ?_
    refine r_iload_n C dX6_holds_14 rfl ?_
    obtain ⟨hi3, h⟩ := h
    refine r_iald C 2 rfl hi3 dX6_holds_15 ?_
    refine r_if_ne (tgt := 23) C dX6_holds_16 (by decide) (fun c4 => ?_) (fun c4 => ?_)
    · have h := h.1 c4
      refine r_iconst (v := 1) C dX6_holds_23 (by decide) ?_
      exact wfX6_holds_24 C hZ h
    · have h := h.2 c4
      refine r_iconst (v := 0) C dX6_holds_19 (by decide) ?_
      refine r_goto (tgt := 24) C dX6_holds_20 (by decide) ?_
      exact wfX6_holds_24 C hZ h
def rmX6_stateBehind : Room := { frames := 0, cells := 0, slots := 0, locals := 0 }
theorem kwX6_stateBehind_0 : Cond.fieldLink RX6 19 "WantsBenchModel" "first" "[J" ∈ wsX6_stateBehind := by decide +kernel
theorem uwX6_stateBehind_6 : ∀ w ∈ wsX60, w ∈ wsX6_stateBehind := by decide +kernel
theorem kwX6_stateBehind_2 : Cond.fieldLink RX6 23 "WantsBenchModel" "second" "[J" ∈ wsX6_stateBehind := by decide +kernel
theorem kwX6_stateBehind_3 : Cond.fieldLink RX6 13 "WantsBenchModel" "sort" "[I" ∈ wsX6_stateBehind := by decide +kernel
def fX6_stateBehind_145 (N : Nat) (S : RS) (v2 : Int32) (v5 : Int32) (k0 : Int32) (Q : Int32 → Prop) : Prop :=
  ((v5 = 0 → Q k0) ∧ (¬ v5 = 0 → ((v2 ≤ k0 → Q k0) ∧ (¬ v2 ≤ k0 → Q v2))))
set_option maxRecDepth 100000 in
set_option maxHeartbeats 4000000 in
theorem wfX6_stateBehind_145 {x : Nx} {g : Gx} {W0 : va_W} {a : Nat → Nat} {S : RS} {N : Nat} {v2 : Int32} {v5 : Int32} {k0 : Int32} {Q : Int32 → Prop} (C : Cx x g cX6_stateBehind RX6 wsX6_stateBehind rmX6_stateBehind yX6_stateBehind (some .int) 8) (hZ : Zq x g W0 (fun _ : Unit => mW g a S) (qI (fun (r : Int32) (_ : Unit) => Q r)) 0 0) (h : fX6_stateBehind_145 N S v2 v5 k0 Q) : St x 0 0 (mW g a S) [(2, .int v2), (5, .int v5)] [.int k0] 145 := by
  unfold fX6_stateBehind_145 at h
  refine r_istore (lv' := [(2, .int v2), (5, .int v5), (7, .int k0)]) C dX6_stateBehind_145 [some 0, some 1, none] (by decide) rfl rfl ?_
  refine r_iload C dX6_stateBehind_147 rfl ?_
  refine r_if_eq (tgt := 162) C dX6_stateBehind_149 (by decide) (fun c11 => ?_) (fun c11 => ?_)
  · have h := h.1 c11
    refine r_iload C dX6_stateBehind_162 rfl ?_
    exact r_iret C hZ (u := ()) h rfl dX6_stateBehind_164
  · have h := h.2 c11
    refine r_iload_n C dX6_stateBehind_152 rfl ?_
    refine r_iload C dX6_stateBehind_153 rfl ?_
    refine r_icmp_le (tgt := 162) C dX6_stateBehind_155 (by decide) (fun c12 => ?_) (fun c12 => ?_)
    · have h := h.1 c12
      refine r_iload C dX6_stateBehind_162 rfl ?_
      exact r_iret C hZ (u := ()) h rfl dX6_stateBehind_164
    · have h := h.2 c12
      refine r_iload_n C dX6_stateBehind_158 rfl ?_
      refine r_goto (tgt := 164) C dX6_stateBehind_159 (by decide) ?_
      exact r_iret C hZ (u := ()) h rfl dX6_stateBehind_164
def fX6_stateBehind_134 (N : Nat) (S : RS) (v2 : Int32) (v3 : Int32) (v5 : Int32) (Q : Int32 → Prop) : Prop :=
  ((v3 ≤ 0 → (fX6_stateBehind_145 N S v2 v5 0 Q)) ∧ (¬ v3 ≤ 0 → (fX6_stateBehind_145 N S v2 v5 (v3 - (1 : Int32)) Q)))
set_option maxRecDepth 100000 in
set_option maxHeartbeats 4000000 in
theorem wfX6_stateBehind_134 {x : Nx} {g : Gx} {W0 : va_W} {a : Nat → Nat} {S : RS} {N : Nat} {v2 : Int32} {v3 : Int32} {v5 : Int32} {Q : Int32 → Prop} (C : Cx x g cX6_stateBehind RX6 wsX6_stateBehind rmX6_stateBehind yX6_stateBehind (some .int) 8) (hZ : Zq x g W0 (fun _ : Unit => mW g a S) (qI (fun (r : Int32) (_ : Unit) => Q r)) 0 0) (h : fX6_stateBehind_134 N S v2 v3 v5 Q) : St x 0 0 (mW g a S) [(2, .int v2), (3, .int v3), (5, .int v5)] [] 134 := by
  unfold fX6_stateBehind_134 at h
  refine r_iload_n C dX6_stateBehind_134 rfl ?_
  refine r_if_le (tgt := 144) C dX6_stateBehind_135 (by decide) (fun c10 => ?_) (fun c10 => ?_)
  · have h := h.1 c10
    refine r_iconst (v := 0) C dX6_stateBehind_144 (by decide) ?_
    refine r_sub [0, 2] (lv' := [(2, .int v2), (5, .int v5)]) rfl ?_
    exact wfX6_stateBehind_145 C hZ h
  · have h := h.2 c10
    refine r_iload_n C dX6_stateBehind_138 rfl ?_
    refine r_iconst (v := 1) C dX6_stateBehind_139 (by decide) ?_
    refine r_isub C dX6_stateBehind_140 ?_
    refine r_goto (tgt := 145) C dX6_stateBehind_141 (by decide) ?_
    refine r_sub [0, 2] (lv' := [(2, .int v2), (5, .int v5)]) rfl ?_
    exact wfX6_stateBehind_145 C hZ h
def fX6_stateBehind_44 (N : Nat) (S : RS) (v1 : Int32) (v2 : Int32) (v3 : Int32) (v5 : Int32) (k0 : Int32) (Q : Int32 → Prop) : Prop :=
  (vp_in v1 20 ∧ ((¬ (S.2.1 3 v1.toNatClampNeg) = 0 → (vp_in v1 20 ∧ ((¬ (S.2.1 3 v1.toNatClampNeg) = 1 → ((v3 ≤ 0 → (fX6_stateBehind_134 N S v2 v3 v5 Q)) ∧ (¬ v3 ≤ 0 → ((¬ k0 = 0 → (fX6_stateBehind_134 N S v2 v3 v5 Q)) ∧ (k0 = 0 → Q (-4)))))) ∧ ((S.2.1 3 v1.toNatClampNeg) = 1 → ((k0 = 0 → ((v3 ≤ 0 → ((¬ v5 = 0 → ((¬ v2 = 0 → Q v2) ∧ (v2 = 0 → Q (-4)))) ∧ (v5 = 0 → Q 0))) ∧ (¬ v3 ≤ 0 → ((¬ v3 = 1 → Q (v3 - (1 : Int32))) ∧ (v3 = 1 → Q (-4)))))) ∧ (¬ k0 = 0 → Q 0)))))) ∧ ((S.2.1 3 v1.toNatClampNeg) = 0 → ((v5 = 0 → Q v3) ∧ (¬ v5 = 0 → Q (-4))))))
set_option maxRecDepth 100000 in
set_option maxHeartbeats 4000000 in
theorem wfX6_stateBehind_44 {x : Nx} {g : Gx} {W0 : va_W} {a : Nat → Nat} {S : RS} {N : Nat} {v1 : Int32} {v2 : Int32} {v3 : Int32} {v5 : Int32} {k0 : Int32} {Q : Int32 → Prop} (C : Cx x g cX6_stateBehind RX6 wsX6_stateBehind rmX6_stateBehind yX6_stateBehind (some .int) 8) (hZ : Zq x g W0 (fun _ : Unit => mW g a S) (qI (fun (r : Int32) (_ : Unit) => Q r)) 0 0) (h : fX6_stateBehind_44 N S v1 v2 v3 v5 k0 Q) : St x 0 0 (mW g a S) [(0, .ref (a 50)), (1, .int v1), (2, .int v2), (3, .int v3), (5, .int v5)] [.int k0] 44 := by
  unfold fX6_stateBehind_44 at h
  refine r_istore (lv' := [(0, .ref (a 50)), (1, .int v1), (2, .int v2), (3, .int v3), (5, .int v5), (6, .int k0)]) C dX6_stateBehind_44 [some 0, some 1, some 2, some 3, some 4, none] (by decide) rfl rfl ?_
  refine r_aload_n C dX6_stateBehind_46 rfl ?_
  refine r_get (cn := RX6) (T := TX6) (N := 43) (ci := 6) C uwX6_stateBehind_6 0 rfl rfl 3 (by decide) kwX6_stateBehind_3 (v := .ref (a 3)) rfl dX6_stateBehind_47 ?_
  refine r_iload_n C dX6_stateBehind_50 rfl ?_
  obtain ⟨hi5, h⟩ := h
  refine r_iald C 2 rfl hi5 dX6_stateBehind_51 ?_
  refine r_if_ne (tgt := 67) C dX6_stateBehind_52 (by decide) (fun c6 => ?_) (fun c6 => ?_)
  · have h := h.1 c6
    refine r_aload_n C dX6_stateBehind_67 rfl ?_
    refine r_get (cn := RX6) (T := TX6) (N := 43) (ci := 6) C uwX6_stateBehind_6 0 rfl rfl 3 (by decide) kwX6_stateBehind_3 (v := .ref (a 3)) rfl dX6_stateBehind_68 ?_
    refine r_iload_n C dX6_stateBehind_71 rfl ?_
    obtain ⟨hi7, h⟩ := h
    refine r_iald C 2 rfl hi7 dX6_stateBehind_72 ?_
    refine r_iconst (v := 1) C dX6_stateBehind_73 (by decide) ?_
    refine r_icmp_ne (tgt := 122) C dX6_stateBehind_74 (by decide) (fun c8 => ?_) (fun c8 => ?_)
    · have h := h.1 c8
      refine r_iload_n C dX6_stateBehind_122 rfl ?_
      refine r_if_le (tgt := 134) C dX6_stateBehind_123 (by decide) (fun c9 => ?_) (fun c9 => ?_)
      · have h := h.1 c9
        refine r_sub [2, 3, 4] (lv' := [(2, .int v2), (3, .int v3), (5, .int v5)]) rfl ?_
        exact wfX6_stateBehind_134 C hZ h
      · have h := h.2 c9
        refine r_iload C dX6_stateBehind_126 rfl ?_
        refine r_if_ne (tgt := 134) C dX6_stateBehind_128 (by decide) (fun c13 => ?_) (fun c13 => ?_)
        · have h := h.1 c13
          refine r_sub [2, 3, 4] (lv' := [(2, .int v2), (3, .int v3), (5, .int v5)]) rfl ?_
          exact wfX6_stateBehind_134 C hZ h
        · have h := h.2 c13
          refine r_bipush (v := (-4)) C dX6_stateBehind_131 (by decide) ?_
          exact r_iret C hZ (u := ()) h rfl dX6_stateBehind_133
    · have h := h.2 c8
      refine r_iload C dX6_stateBehind_77 rfl ?_
      refine r_if_eq (tgt := 84) C dX6_stateBehind_79 (by decide) (fun c14 => ?_) (fun c14 => ?_)
      · have h := h.1 c14
        refine r_iload_n C dX6_stateBehind_84 rfl ?_
        refine r_if_le (tgt := 102) C dX6_stateBehind_85 (by decide) (fun c15 => ?_) (fun c15 => ?_)
        · have h := h.1 c15
          refine r_iload C dX6_stateBehind_102 rfl ?_
          refine r_if_ne (tgt := 111) C dX6_stateBehind_104 (by decide) (fun c16 => ?_) (fun c16 => ?_)
          · have h := h.1 c16
            refine r_iload_n C dX6_stateBehind_111 rfl ?_
            refine r_if_ne (tgt := 120) C dX6_stateBehind_112 (by decide) (fun c17 => ?_) (fun c17 => ?_)
            · have h := h.1 c17
              refine r_iload_n C dX6_stateBehind_120 rfl ?_
              exact r_iret C hZ (u := ()) h rfl dX6_stateBehind_121
            · have h := h.2 c17
              refine r_bipush (v := (-4)) C dX6_stateBehind_115 (by decide) ?_
              refine r_goto (tgt := 121) C dX6_stateBehind_117 (by decide) ?_
              exact r_iret C hZ (u := ()) h rfl dX6_stateBehind_121
          · have h := h.2 c16
            refine r_iconst (v := 0) C dX6_stateBehind_107 (by decide) ?_
            refine r_goto (tgt := 121) C dX6_stateBehind_108 (by decide) ?_
            exact r_iret C hZ (u := ()) h rfl dX6_stateBehind_121
        · have h := h.2 c15
          refine r_iload_n C dX6_stateBehind_88 rfl ?_
          refine r_iconst (v := 1) C dX6_stateBehind_89 (by decide) ?_
          refine r_icmp_ne (tgt := 98) C dX6_stateBehind_90 (by decide) (fun c18 => ?_) (fun c18 => ?_)
          · have h := h.1 c18
            refine r_iload_n C dX6_stateBehind_98 rfl ?_
            refine r_iconst (v := 1) C dX6_stateBehind_99 (by decide) ?_
            refine r_isub C dX6_stateBehind_100 ?_
            exact r_iret C hZ (u := ()) h rfl dX6_stateBehind_101
          · have h := h.2 c18
            refine r_bipush (v := (-4)) C dX6_stateBehind_93 (by decide) ?_
            refine r_goto (tgt := 101) C dX6_stateBehind_95 (by decide) ?_
            exact r_iret C hZ (u := ()) h rfl dX6_stateBehind_101
      · have h := h.2 c14
        refine r_iconst (v := 0) C dX6_stateBehind_82 (by decide) ?_
        exact r_iret C hZ (u := ()) h rfl dX6_stateBehind_83
  · have h := h.2 c6
    refine r_iload C dX6_stateBehind_55 rfl ?_
    refine r_if_eq (tgt := 65) C dX6_stateBehind_57 (by decide) (fun c19 => ?_) (fun c19 => ?_)
    · have h := h.1 c19
      refine r_iload_n C dX6_stateBehind_65 rfl ?_
      exact r_iret C hZ (u := ()) h rfl dX6_stateBehind_66
    · have h := h.2 c19
      refine r_bipush (v := (-4)) C dX6_stateBehind_60 (by decide) ?_
      refine r_goto (tgt := 66) C dX6_stateBehind_62 (by decide) ?_
      exact r_iret C hZ (u := ()) h rfl dX6_stateBehind_66
def fX6_stateBehind_21 (N : Nat) (S : RS) (v1 : Int32) (v2 : Int32) (v3 : Int32) (v4 : Int32) (k0 : Int32) (Q : Int32 → Prop) : Prop :=
  (vp_in v1 20 ∧ ((¬ (((S.2.2.2 6 v1.toNatClampNeg) >>> (v4.toInt64 &&& 63)) &&& (1 : Int64)) = 1 → (fX6_stateBehind_44 N S v1 v2 v3 k0 0 Q)) ∧ ((((S.2.2.2 6 v1.toNatClampNeg) >>> (v4.toInt64 &&& 63)) &&& (1 : Int64)) = 1 → (fX6_stateBehind_44 N S v1 v2 v3 k0 1 Q))))
set_option maxRecDepth 100000 in
set_option maxHeartbeats 4000000 in
theorem wfX6_stateBehind_21 {x : Nx} {g : Gx} {W0 : va_W} {a : Nat → Nat} {S : RS} {N : Nat} {v1 : Int32} {v2 : Int32} {v3 : Int32} {v4 : Int32} {k0 : Int32} {Q : Int32 → Prop} (C : Cx x g cX6_stateBehind RX6 wsX6_stateBehind rmX6_stateBehind yX6_stateBehind (some .int) 8) (hZ : Zq x g W0 (fun _ : Unit => mW g a S) (qI (fun (r : Int32) (_ : Unit) => Q r)) 0 0) (h : fX6_stateBehind_21 N S v1 v2 v3 v4 k0 Q) : St x 0 0 (mW g a S) [(0, .ref (a 50)), (1, .int v1), (2, .int v2), (3, .int v3), (4, .int v4)] [.int k0] 21 := by
  unfold fX6_stateBehind_21 at h
  refine r_istore (lv' := [(0, .ref (a 50)), (1, .int v1), (2, .int v2), (3, .int v3), (4, .int v4), (5, .int k0)]) C dX6_stateBehind_21 [some 0, some 1, some 2, some 3, some 4, none] (by decide) rfl rfl ?_
  refine r_aload_n C dX6_stateBehind_23 rfl ?_
  refine r_get (cn := RX6) (T := TX6) (N := 43) (ci := 6) C uwX6_stateBehind_6 0 rfl rfl 6 (by decide) kwX6_stateBehind_2 (v := .ref (a 6)) rfl dX6_stateBehind_24 ?_
  refine r_iload_n C dX6_stateBehind_27 rfl ?_
  obtain ⟨hi3, h⟩ := h
  refine r_lald C 5 rfl hi3 dX6_stateBehind_28 ?_
  refine r_iload C dX6_stateBehind_29 rfl ?_
  refine r_lshr C dX6_stateBehind_31 ?_
  refine r_lconst (v := 1) C dX6_stateBehind_32 (by decide) ?_
  refine r_land C dX6_stateBehind_33 ?_
  refine r_lconst (v := 1) C dX6_stateBehind_34 (by decide) ?_
  refine r_lcmp_ne (tgt := 43) C dX6_stateBehind_35 dX6_stateBehind_36 (by decide) (fun c4 => ?_) (fun c4 => ?_)
  · have h := h.1 c4
    refine r_iconst (v := 0) C dX6_stateBehind_43 (by decide) ?_
    refine r_sub [0, 1, 2, 3, 5] (lv' := [(0, .ref (a 50)), (1, .int v1), (2, .int v2), (3, .int v3), (5, .int k0)]) rfl ?_
    exact wfX6_stateBehind_44 C hZ h
  · have h := h.2 c4
    refine r_iconst (v := 1) C dX6_stateBehind_39 (by decide) ?_
    refine r_goto (tgt := 44) C dX6_stateBehind_40 (by decide) ?_
    refine r_sub [0, 1, 2, 3, 5] (lv' := [(0, .ref (a 50)), (1, .int v1), (2, .int v2), (3, .int v3), (5, .int k0)]) rfl ?_
    exact wfX6_stateBehind_44 C hZ h
def fX6_stateBehind (N : Nat) (S : RS) (v1 : Int32) (v2 : Int32) (v3 : Int32) (v4 : Int32) (Q : Int32 → Prop) : Prop :=
  (vp_in v1 20 ∧ ((¬ (((S.2.2.2 5 v1.toNatClampNeg) >>> (v4.toInt64 &&& 63)) &&& (1 : Int64)) = 1 → (fX6_stateBehind_21 N S v1 v2 v3 v4 0 Q)) ∧ ((((S.2.2.2 5 v1.toNatClampNeg) >>> (v4.toInt64 &&& 63)) &&& (1 : Int64)) = 1 → (fX6_stateBehind_21 N S v1 v2 v3 v4 1 Q))))
set_option maxRecDepth 100000 in
set_option maxHeartbeats 4000000 in
theorem tX6_stateBehind (l : Launch) (g : Gx) (a : Nat → Nat) (S : RS) (N : Nat) (v1 : Int32) (v2 : Int32) (v3 : Int32) (v4 : Int32) (Q : Int32 → Prop) (h : fX6_stateBehind N S v1 v2 v3 v4 Q) : MetG l g yX6_stateBehind wsX6_stateBehind rmX6_stateBehind [.ref (a 50), .int v1, .int v2, .int v3, .int v4] (mW g a S) (fun _ : Unit => mW g a S) (qI (fun (r : Int32) (_ : Unit) => Q r)) 0 0 := by
  refine met_of (cc := cX6_stateBehind) (own := RX6) (nL := 8) (ret := (some .int)) (lv := [(0, .ref (a 50)), (1, .int v1), (2, .int v2), (3, .int v3), (4, .int v4)]) (by decide) rfl rfl (Nat.le_of_ble_eq_true rfl) rfl ?_
  intro x C hl hZ
  subst hl
  unfold fX6_stateBehind at h
  refine r_aload_n C dX6_stateBehind_0 rfl ?_
  refine r_get (cn := RX6) (T := TX6) (N := 43) (ci := 6) C uwX6_stateBehind_6 0 rfl rfl 5 (by decide) kwX6_stateBehind_0 (v := .ref (a 5)) rfl dX6_stateBehind_1 ?_
  refine r_iload_n C dX6_stateBehind_4 rfl ?_
  obtain ⟨hi1, h⟩ := h
  refine r_lald C 4 rfl hi1 dX6_stateBehind_5 ?_
  refine r_iload C dX6_stateBehind_6 rfl ?_
  refine r_lshr C dX6_stateBehind_8 ?_
  refine r_lconst (v := 1) C dX6_stateBehind_9 (by decide) ?_
  refine r_land C dX6_stateBehind_10 ?_
  refine r_lconst (v := 1) C dX6_stateBehind_11 (by decide) ?_
  refine r_lcmp_ne (tgt := 20) C dX6_stateBehind_12 dX6_stateBehind_13 (by decide) (fun c2 => ?_) (fun c2 => ?_)
  · have h := h.1 c2
    refine r_iconst (v := 0) C dX6_stateBehind_20 (by decide) ?_
    exact wfX6_stateBehind_21 C hZ h
  · have h := h.2 c2
    refine r_iconst (v := 1) C dX6_stateBehind_16 (by decide) ?_
    refine r_goto (tgt := 21) C dX6_stateBehind_17 (by decide) ?_
    exact wfX6_stateBehind_21 C hZ h
def rmX6_next : Room := { frames := 1, cells := 0, slots := 0, locals := 27 }
theorem kwX6_next_0 : Cond.fieldLink RX6 16 "WantsBenchModel" "number" "[I" ∈ wsX6_next := by decide +kernel
theorem uwX6_next_6 : ∀ w ∈ wsX60, w ∈ wsX6_next := by decide +kernel
def fX6_next (N : Nat) (S : RS) (v1 : Int32) (v2 : Int32) (v3 : Int32) (Q : Int32 → Prop) : Prop :=
  (fX6_isWant N S v1 (fun r1 => ((r1 = 0 → Q (-1)) ∧ (¬ r1 = 0 → (fX6_within N v2 0 3 (fun r3 => ((r3 = 0 → Q (-1)) ∧ (¬ r3 = 0 → (fX6_within N v3 0 63 (fun r5 => ((¬ r5 = 0 → (vp_in v1 20 ∧ (fX6_stateBehind N S v1 (S.2.1 4 v1.toNatClampNeg) v2 v3 (fun r8 => Q r8)))) ∧ (r5 = 0 → Q (-1)))))))))))))
set_option maxRecDepth 100000 in
set_option maxHeartbeats 4000000 in
theorem tX6_next (l : Launch) (g : Gx) (a : Nat → Nat) (S : RS) (N : Nat) (v1 : Int32) (v2 : Int32) (v3 : Int32) (Q : Int32 → Prop) (h : fX6_next N S v1 v2 v3 Q) : MetG l g yX6_next wsX6_next rmX6_next [.ref (a 50), .int v1, .int v2, .int v3] (mW g a S) (fun _ : Unit => mW g a S) (qI (fun (r : Int32) (_ : Unit) => Q r)) 0 0 := by
  refine met_of (cc := cX6_next) (own := RX6) (nL := 4) (ret := (some .int)) (lv := [(0, .ref (a 50)), (1, .int v1), (2, .int v2), (3, .int v3)]) (by decide) rfl rfl (Nat.le_of_ble_eq_true rfl) rfl ?_
  intro x C hl hZ
  subst hl
  unfold fX6_next at h
  refine r_aload_n C dX6_next_0 rfl ?_
  refine r_iload_n C dX6_next_1 rfl ?_
  refine callR_I C (run_V (As := [.int v1]) (rest := []) (ci := 6) C hZ.2.2 (tX6_isWant _ g a S N v1 _ h) gX6_next_X6_isWant rfl dsX6_isWant rfl rfl ⟨(Nat.le_of_ble_eq_true rfl), (Nat.le_of_ble_eq_true rfl)⟩ rfl (List.mem_of_getElem? (i := 0) rfl) rfl (Nat.le_of_ble_eq_true rfl) dX6_next_2 ⟨Nat.zero_le _, Nat.zero_le _⟩) (List.Sublist.refl _) (fun _ => rfl) (fun r1 _ h => ?_)
  refine r_if_eq (tgt := 27) C dX6_next_5 (by decide) (fun c2 => ?_) (fun c2 => ?_)
  · have h := h.1 c2
    refine r_iconst (v := (-1)) C dX6_next_27 (by decide) ?_
    exact r_iret C hZ (u := ()) h rfl dX6_next_28
  · have h := h.2 c2
    refine r_iload_n C dX6_next_8 rfl ?_
    refine r_iconst (v := 0) C dX6_next_9 (by decide) ?_
    refine r_iconst (v := 3) C dX6_next_10 (by decide) ?_
    refine callR_I C (run_S (As := [.int v2, .int 0, .int 3]) (rest := []) C hZ.2.2 (tX6_within _ g N v2 0 3 _ h) gX6_next_X6_within rfl dsX6_within rfl rfl ⟨(Nat.le_of_ble_eq_true rfl), (Nat.le_of_ble_eq_true rfl)⟩ rfl (Nat.le_of_ble_eq_true rfl) dX6_next_11 ⟨Nat.zero_le _, Nat.zero_le _⟩) (List.nil_sublist _) (fun _ => rfl) (fun r3 _ h => ?_)
    refine r_if_eq (tgt := 27) C dX6_next_14 (by decide) (fun c4 => ?_) (fun c4 => ?_)
    · have h := h.1 c4
      refine r_iconst (v := (-1)) C dX6_next_27 (by decide) ?_
      exact r_iret C hZ (u := ()) h rfl dX6_next_28
    · have h := h.2 c4
      refine r_iload_n C dX6_next_17 rfl ?_
      refine r_iconst (v := 0) C dX6_next_18 (by decide) ?_
      refine r_bipush (v := 63) C dX6_next_19 (by decide) ?_
      refine callR_I C (run_S (As := [.int v3, .int 0, .int 63]) (rest := []) C hZ.2.2 (tX6_within _ g N v3 0 63 _ h) gX6_next_X6_within rfl dsX6_within rfl rfl ⟨(Nat.le_of_ble_eq_true rfl), (Nat.le_of_ble_eq_true rfl)⟩ rfl (Nat.le_of_ble_eq_true rfl) dX6_next_21 ⟨Nat.zero_le _, Nat.zero_le _⟩) (List.nil_sublist _) (fun _ => rfl) (fun r5 _ h => ?_)
      refine r_if_ne (tgt := 29) C dX6_next_24 (by decide) (fun c6 => ?_) (fun c6 => ?_)
      · have h := h.1 c6
        refine r_aload_n C dX6_next_29 rfl ?_
        refine r_iload_n C dX6_next_30 rfl ?_
        refine r_aload_n C dX6_next_31 rfl ?_
        refine r_get (cn := RX6) (T := TX6) (N := 43) (ci := 6) C uwX6_next_6 0 rfl rfl 4 (by decide) kwX6_next_0 (v := .ref (a 4)) rfl dX6_next_32 ?_
        refine r_iload_n C dX6_next_35 rfl ?_
        obtain ⟨hi7, h⟩ := h
        refine r_iald C 3 rfl hi7 dX6_next_36 ?_
        refine r_iload_n C dX6_next_37 rfl ?_
        refine r_iload_n C dX6_next_38 rfl ?_
        refine callR_I C (run_V (As := [.int v1, .int (S.2.1 4 v1.toNatClampNeg), .int v2, .int v3]) (rest := []) (ci := 6) C hZ.2.2 (tX6_stateBehind _ g a S N v1 (S.2.1 4 v1.toNatClampNeg) v2 v3 _ h) gX6_next_X6_stateBehind rfl dsX6_stateBehind rfl rfl ⟨(Nat.le_of_ble_eq_true rfl), (Nat.le_of_ble_eq_true rfl)⟩ rfl (List.mem_of_getElem? (i := 0) rfl) rfl (Nat.le_of_ble_eq_true rfl) dX6_next_39 ⟨Nat.zero_le _, Nat.zero_le _⟩) (List.Sublist.refl _) (fun _ => rfl) (fun r8 _ h => ?_)
        exact r_iret C hZ (u := ()) h rfl dX6_next_42
      · have h := h.2 c6
        refine r_iconst (v := (-1)) C dX6_next_27 (by decide) ?_
        exact r_iret C hZ (u := ()) h rfl dX6_next_28
def rmX6_isSet : Room := { frames := 1, cells := 0, slots := 0, locals := 22 }
theorem kwX6_isSet_0 : Cond.fieldLink RX6 87 "WantsBenchModel" "wants" "I" ∈ wsX6_isSet := by decide +kernel
theorem uwX6_isSet_6 : ∀ w ∈ wsX60, w ∈ wsX6_isSet := by decide +kernel
def fX6_isSet (N : Nat) (S : RS) (v1 : Int32) (v2 : Int32) (Q : Int32 → Prop) : Prop :=
  ((v1 ≤ 0 → Q 0) ∧ (¬ v1 ≤ 0 → ((((1 : Int32) <<< ((S.1 13) &&& 31)) ≤ v1 → Q 0) ∧ (¬ ((1 : Int32) <<< ((S.1 13) &&& 31)) ≤ v1 → (fX6_countBits N v1 (fun r3 => ((v2 < r3 → Q 0) ∧ (¬ v2 < r3 → Q 1))))))))
set_option maxRecDepth 100000 in
set_option maxHeartbeats 4000000 in
theorem tX6_isSet (l : Launch) (g : Gx) (a : Nat → Nat) (S : RS) (N : Nat) (v1 : Int32) (v2 : Int32) (Q : Int32 → Prop) (h : fX6_isSet N S v1 v2 Q) : MetG l g yX6_isSet wsX6_isSet rmX6_isSet [.ref (a 50), .int v1, .int v2] (mW g a S) (fun _ : Unit => mW g a S) (qI (fun (r : Int32) (_ : Unit) => Q r)) 0 0 := by
  refine met_of (cc := cX6_isSet) (own := RX6) (nL := 3) (ret := (some .boolean)) (lv := [(0, .ref (a 50)), (1, .int v1), (2, .int v2)]) (by decide) rfl rfl (Nat.le_of_ble_eq_true rfl) rfl ?_
  intro x C hl hZ
  subst hl
  unfold fX6_isSet at h
  refine r_iload_n C dX6_isSet_0 rfl ?_
  refine r_if_le (tgt := 26) C dX6_isSet_1 (by decide) (fun c1 => ?_) (fun c1 => ?_)
  · have h := h.1 c1
    refine r_iconst (v := 0) C dX6_isSet_26 (by decide) ?_
    exact r_zret C hZ (u := ()) (by decide) h rfl dX6_isSet_27
  · have h := h.2 c1
    refine r_iload_n C dX6_isSet_4 rfl ?_
    refine r_iconst (v := 1) C dX6_isSet_5 (by decide) ?_
    refine r_aload_n C dX6_isSet_6 rfl ?_
    refine r_get (cn := RX6) (T := TX6) (N := 43) (ci := 6) C uwX6_isSet_6 0 rfl rfl 13 (by decide) kwX6_isSet_0 (v := .int (S.1 13)) rfl dX6_isSet_7 ?_
    refine r_ishl C dX6_isSet_10 ?_
    refine r_icmp_ge (tgt := 26) C dX6_isSet_11 (by decide) (fun c2 => ?_) (fun c2 => ?_)
    · have h := h.1 c2
      refine r_iconst (v := 0) C dX6_isSet_26 (by decide) ?_
      exact r_zret C hZ (u := ()) (by decide) h rfl dX6_isSet_27
    · have h := h.2 c2
      refine r_iload_n C dX6_isSet_14 rfl ?_
      refine callR_I C (run_S (As := [.int v1]) (rest := []) C hZ.2.2 (tX6_countBits _ g N v1 _ h) gX6_isSet_X6_countBits rfl dsX6_countBits rfl rfl ⟨(Nat.le_of_ble_eq_true rfl), (Nat.le_of_ble_eq_true rfl)⟩ rfl (Nat.le_of_ble_eq_true rfl) dX6_isSet_15 ⟨Nat.zero_le _, Nat.zero_le _⟩) (List.nil_sublist _) (fun _ => rfl) (fun r3 _ h => ?_)
      refine r_iload_n C dX6_isSet_18 rfl ?_
      refine r_icmp_gt (tgt := 26) C dX6_isSet_19 (by decide) (fun c4 => ?_) (fun c4 => ?_)
      · have h := h.1 c4
        refine r_iconst (v := 0) C dX6_isSet_26 (by decide) ?_
        exact r_zret C hZ (u := ()) (by decide) h rfl dX6_isSet_27
      · have h := h.2 c4
        refine r_iconst (v := 1) C dX6_isSet_22 (by decide) ?_
        refine r_goto (tgt := 27) C dX6_isSet_23 (by decide) ?_
        exact r_zret C hZ (u := ()) (by decide) h rfl dX6_isSet_27
def rmX6_add : Room := { frames := 0, cells := 0, slots := 0, locals := 0 }
theorem kwX6_add_0 : Cond.fieldLink RX6 44 "WantsBenchModel" "own" "[I" ∈ wsX6_add := by decide +kernel
theorem uwX6_add_6 : ∀ w ∈ wsX60, w ∈ wsX6_add := by decide +kernel
theorem kwX6_add_2 : Cond.fieldLink RX6 149 "WantsBenchModel" "many" "I" ∈ wsX6_add := by decide +kernel
theorem kwX6_add_3 : Cond.fieldLink RX6 47 "WantsBenchModel" "ownNumber" "[I" ∈ wsX6_add := by decide +kernel
def fX6_add (N : Nat) (S : RS) (v1 : Int32) (v2 : Int32) (Q : RS → Prop) : Prop :=
  (vp_in (S.1 16) 5 ∧ (∀ S2 : RS, S2 = sA S 14 (upd (S.2.1 14) (S.1 16).toNatClampNeg v1) → (vp_in (S2.1 16) 5 ∧ (∀ S4 : RS, S4 = sA S2 15 (upd (S2.2.1 15) (S2.1 16).toNatClampNeg v2) → (∀ S5 : RS, S5 = sI S4 16 ((S4.1 16) + (1 : Int32)) → Q S5)))))
set_option maxRecDepth 100000 in
set_option maxHeartbeats 4000000 in
theorem tX6_add (l : Launch) (g : Gx) (a : Nat → Nat) (S : RS) (N : Nat) (v1 : Int32) (v2 : Int32) (Q : RS → Prop) (h : fX6_add N S v1 v2 Q) : MetG l g yX6_add wsX6_add rmX6_add [.ref (a 50), .int v1, .int v2] (mW g a S) (fun u : RS => mW g a u) (qV (fun u : RS => Q u)) 0 0 := by
  refine met_of (cc := cX6_add) (own := RX6) (nL := 3) (ret := none) (lv := [(0, .ref (a 50)), (1, .int v1), (2, .int v2)]) (by decide) rfl rfl (Nat.le_of_ble_eq_true rfl) rfl ?_
  intro x C hl hZ
  subst hl
  unfold fX6_add at h
  refine r_aload_n C dX6_add_0 rfl ?_
  refine r_get (cn := RX6) (T := TX6) (N := 43) (ci := 6) C uwX6_add_6 0 rfl rfl 14 (by decide) kwX6_add_0 (v := .ref (a 14)) rfl dX6_add_1 ?_
  refine r_aload_n C dX6_add_4 rfl ?_
  refine r_get (cn := RX6) (T := TX6) (N := 43) (ci := 6) C uwX6_add_6 0 rfl rfl 16 (by decide) kwX6_add_2 (v := .int (S.1 16)) rfl dX6_add_5 ?_
  refine r_iload_n C dX6_add_8 rfl ?_
  obtain ⟨hi1, h⟩ := h
  obtain ⟨S2, hS2⟩ : ∃ z : RS, z = sA S 14 (upd (S.2.1 14) (S.1 16).toNatClampNeg v1) := ⟨_, rfl⟩
  have h := h S2 hS2
  refine r_iast (ws' := mW g a S2) C 12 rfl hi1 dX6_add_9 (by rw [hS2]; rfl) ?_
  refine r_aload_n C dX6_add_10 rfl ?_
  refine r_get (cn := RX6) (T := TX6) (N := 43) (ci := 6) C uwX6_add_6 0 rfl rfl 15 (by decide) kwX6_add_3 (v := .ref (a 15)) rfl dX6_add_11 ?_
  refine r_aload_n C dX6_add_14 rfl ?_
  refine r_get (cn := RX6) (T := TX6) (N := 43) (ci := 6) C uwX6_add_6 0 rfl rfl 16 (by decide) kwX6_add_2 (v := .int (S2.1 16)) rfl dX6_add_15 ?_
  refine r_iload_n C dX6_add_18 rfl ?_
  obtain ⟨hi3, h⟩ := h
  obtain ⟨S4, hS4⟩ : ∃ z : RS, z = sA S2 15 (upd (S2.2.1 15) (S2.1 16).toNatClampNeg v2) := ⟨_, rfl⟩
  have h := h S4 hS4
  refine r_iast (ws' := mW g a S4) C 13 rfl hi3 dX6_add_19 (by rw [hS4]; rfl) ?_
  refine r_aload_n C dX6_add_20 rfl ?_
  refine r_dup C dX6_add_21 rfl ?_
  refine r_get (cn := RX6) (T := TX6) (N := 43) (ci := 6) C uwX6_add_6 0 rfl rfl 16 (by decide) kwX6_add_2 (v := .int (S4.1 16)) rfl dX6_add_22 ?_
  refine r_iconst (v := 1) C dX6_add_25 (by decide) ?_
  refine r_iadd C dX6_add_26 ?_
  obtain ⟨S5, hS5⟩ : ∃ z : RS, z = sI S4 16 ((S4.1 16) + (1 : Int32)) := ⟨_, rfl⟩
  have h := h S5 hS5
  refine r_put (cn := RX6) (T := TX6) (N := 43) (ci := 6) (ws' := mW g a S5) C uwX6_add_6 tyX6 tyX6_ok nmX6 0 rfl rfl 16 (by decide) kwX6_add_2 rfl rfl rfl (Nat.le_of_ble_eq_true rfl) dX6_add_27 (by rw [hS5]; rfl) ?_
  exact r_vret C hZ (u := S5) h rfl dX6_add_30
def rmX6_takeSet : Room := { frames := 1, cells := 0, slots := 0, locals := 22 }
theorem kwX6_takeSet_0 : Cond.fieldLink RX6 149 "WantsBenchModel" "many" "I" ∈ wsX6_takeSet := by decide +kernel
theorem uwX6_takeSet_6 : ∀ w ∈ wsX60, w ∈ wsX6_takeSet := by decide +kernel
theorem kwX6_takeSet_2 : Cond.fieldLink RX6 87 "WantsBenchModel" "wants" "I" ∈ wsX6_takeSet := by decide +kernel
theorem kwX6_takeSet_3 : Cond.fieldLink RX6 16 "WantsBenchModel" "number" "[I" ∈ wsX6_takeSet := by decide +kernel
def fX6_takeSet_7b (N : Nat) (S : RS) (v1 : Int32) (v2 : Int32) (R : Int32 → RS → Prop) (K : RS → Prop) (Q : RS → Prop) : Prop :=
  (((S.1 13) ≤ v2 → K S) ∧ (¬ (S.1 13) ≤ v2 → ((¬ ((v1 >>> (v2 &&& 31)) &&& (1 : Int32)) = 1 → (∀ x4 : Int32, x4 = v2 + 1 → R x4 S)) ∧ (((v1 >>> (v2 &&& 31)) &&& (1 : Int32)) = 1 → (vp_in v2 20 ∧ (fX6_add N S v2 (S.2.1 4 v2.toNatClampNeg) (fun  S6 => (∀ x7 : Int32, x7 = v2 + 1 → R x7 S6))))))))
set_option maxRecDepth 100000 in
set_option maxHeartbeats 4000000 in
theorem wfX6_takeSet_7b {x : Nx} {g : Gx} {W0 : va_W} {a : Nat → Nat} {S : RS} {N : Nat} {v1 : Int32} {v2 : Int32} {R : Int32 → RS → Prop} {K : RS → Prop} {Q : RS → Prop} (C : Cx x g cX6_takeSet RX6 wsX6_takeSet rmX6_takeSet yX6_takeSet none 3) (hZ : Zq x g W0 (fun u : RS => mW g a u) (qV (fun u : RS => Q u)) 0 0) (hR : ∀ (w2 : Int32) (S_ : RS), R w2 S_ → St x 0 0 (mW g a S_) [(0, .ref (a 50)), (1, .int v1), (2, .int w2)] [] 7) (hK : ∀ (S_ : RS), K S_ → St x 0 0 (mW g a S_) [] [] 41) (h : fX6_takeSet_7b N S v1 v2 R K Q) : St x 0 0 (mW g a S) [(0, .ref (a 50)), (1, .int v1), (2, .int v2)] [] 7 := by
  unfold fX6_takeSet_7b at h
  refine r_iload_n C dX6_takeSet_7 rfl ?_
  refine r_aload_n C dX6_takeSet_8 rfl ?_
  refine r_get (cn := RX6) (T := TX6) (N := 43) (ci := 6) C uwX6_takeSet_6 0 rfl rfl 13 (by decide) kwX6_takeSet_2 (v := .int (S.1 13)) rfl dX6_takeSet_9 ?_
  refine r_icmp_ge (tgt := 41) C dX6_takeSet_12 (by decide) (fun c2 => ?_) (fun c2 => ?_)
  · have h := h.1 c2
    refine r_sub [] (lv' := []) rfl ?_
    exact hK S h
  · have h := h.2 c2
    refine r_iload_n C dX6_takeSet_15 rfl ?_
    refine r_iload_n C dX6_takeSet_16 rfl ?_
    refine r_ishr C dX6_takeSet_17 ?_
    refine r_iconst (v := 1) C dX6_takeSet_18 (by decide) ?_
    refine r_iand C dX6_takeSet_19 ?_
    refine r_iconst (v := 1) C dX6_takeSet_20 (by decide) ?_
    refine r_icmp_ne (tgt := 35) C dX6_takeSet_21 (by decide) (fun c3 => ?_) (fun c3 => ?_)
    · have h := h.1 c3
      obtain ⟨x4, ex4⟩ : ∃ z : Int32, z = v2 + 1 := ⟨_, rfl⟩
      have h := h x4 ex4
      refine r_iinc (v := x4) (lv' := [(0, .ref (a 50)), (1, .int v1), (2, .int x4)]) C dX6_takeSet_35 rfl (by rw [ex4]; rfl) [some 0, some 1, none] (by decide) rfl rfl ?_
      refine r_goto (tgt := 7) C dX6_takeSet_38 (by decide) ?_
      exact hR x4 S h
    · have h := h.2 c3
      refine r_aload_n C dX6_takeSet_24 rfl ?_
      refine r_iload_n C dX6_takeSet_25 rfl ?_
      refine r_aload_n C dX6_takeSet_26 rfl ?_
      refine r_get (cn := RX6) (T := TX6) (N := 43) (ci := 6) C uwX6_takeSet_6 0 rfl rfl 4 (by decide) kwX6_takeSet_3 (v := .ref (a 4)) rfl dX6_takeSet_27 ?_
      refine r_iload_n C dX6_takeSet_30 rfl ?_
      obtain ⟨hi5, h⟩ := h
      refine r_iald C 3 rfl hi5 dX6_takeSet_31 ?_
      refine callW_V C (run_V (As := [.int v2, .int (S.2.1 4 v2.toNatClampNeg)]) (rest := []) (ci := 6) C hZ.2.2 (tX6_add _ g a S N v2 (S.2.1 4 v2.toNatClampNeg) _ h) gX6_takeSet_X6_add rfl dsX6_add rfl rfl ⟨(Nat.le_of_ble_eq_true rfl), (Nat.le_of_ble_eq_true rfl)⟩ rfl (List.mem_of_getElem? (i := 0) rfl) rfl (Nat.le_of_ble_eq_true rfl) dX6_takeSet_32 ⟨Nat.zero_le _, Nat.zero_le _⟩) (fun S6 h => ?_)
      show St x 0 0 (mW g a S6) _ _ 35
      obtain ⟨x7, ex7⟩ : ∃ z : Int32, z = v2 + 1 := ⟨_, rfl⟩
      have h := h x7 ex7
      refine r_iinc (v := x7) (lv' := [(0, .ref (a 50)), (1, .int v1), (2, .int x7)]) C dX6_takeSet_35 rfl (by rw [ex7]; rfl) [some 0, some 1, none] (by decide) rfl rfl ?_
      refine r_goto (tgt := 7) C dX6_takeSet_38 (by decide) ?_
      exact hR x7 S6 h
def fX6_takeSet_7 (N : Nat) (v1 : Int32) (K : RS → Prop) (Q : RS → Prop) : Nat → Int32 → RS → Prop
  | 0, _, _ => False
  | n + 1, v2, S => fX6_takeSet_7b N S v1 v2 (fun v2 S => fX6_takeSet_7 N v1 K Q n v2 S) K Q
set_option maxRecDepth 100000 in
set_option maxHeartbeats 4000000 in
theorem wfX6_takeSet_7 {x : Nx} {g : Gx} {W0 : va_W} {a : Nat → Nat}  {N : Nat} {v1 : Int32} {K : RS → Prop} {Q : RS → Prop} (C : Cx x g cX6_takeSet RX6 wsX6_takeSet rmX6_takeSet yX6_takeSet none 3) (hZ : Zq x g W0 (fun u : RS => mW g a u) (qV (fun u : RS => Q u)) 0 0) (hK : ∀ (S_ : RS), K S_ → St x 0 0 (mW g a S_) [] [] 41) : ∀ (n : Nat) (v2 : Int32) (S : RS), fX6_takeSet_7 N v1 K Q n v2 S → St x 0 0 (mW g a S) [(0, .ref (a 50)), (1, .int v1), (2, .int v2)] [] 7 := by
  intro n
  induction n with
  | zero => intro v2 S h; exact False.elim h
  | succ n ih => intro v2 S h; exact wfX6_takeSet_7b C hZ ih hK h
def fX6_takeSet (N : Nat) (S : RS) (v1 : Int32) (Q : RS → Prop) : Prop :=
  (∀ S1 : RS, S1 = sI S 16 0 → (fX6_takeSet_7 N v1 (fun S8 => Q S8) Q N 0 S1))
set_option maxRecDepth 100000 in
set_option maxHeartbeats 4000000 in
theorem tX6_takeSet (l : Launch) (g : Gx) (a : Nat → Nat) (S : RS) (N : Nat) (v1 : Int32) (Q : RS → Prop) (h : fX6_takeSet N S v1 Q) : MetG l g yX6_takeSet wsX6_takeSet rmX6_takeSet [.ref (a 50), .int v1] (mW g a S) (fun u : RS => mW g a u) (qV (fun u : RS => Q u)) 0 0 := by
  refine met_of (cc := cX6_takeSet) (own := RX6) (nL := 3) (ret := none) (lv := [(0, .ref (a 50)), (1, .int v1)]) (by decide) rfl rfl (Nat.le_of_ble_eq_true rfl) rfl ?_
  intro x C hl hZ
  subst hl
  unfold fX6_takeSet at h
  refine r_aload_n C dX6_takeSet_0 rfl ?_
  refine r_iconst (v := 0) C dX6_takeSet_1 (by decide) ?_
  obtain ⟨S1, hS1⟩ : ∃ z : RS, z = sI S 16 0 := ⟨_, rfl⟩
  have h := h S1 hS1
  refine r_put (cn := RX6) (T := TX6) (N := 43) (ci := 6) (ws' := mW g a S1) C uwX6_takeSet_6 tyX6 tyX6_ok nmX6 0 rfl rfl 16 (by decide) kwX6_takeSet_0 rfl rfl rfl (Nat.le_of_ble_eq_true rfl) dX6_takeSet_2 (by rw [hS1]; rfl) ?_
  refine r_iconst (v := 0) C dX6_takeSet_5 (by decide) ?_
  refine r_istore_n (lv' := [(0, .ref (a 50)), (1, .int v1), (2, .int 0)]) C dX6_takeSet_6 [some 0, some 1, none] (by decide) rfl rfl ?_
  refine wfX6_takeSet_7 C hZ (fun S8 h => ?_) N _ _ h
  exact r_vret C hZ (u := S8) h rfl dX6_takeSet_41
def rmX6_findSteps : Room := { frames := 1, cells := 0, slots := 0, locals := 27 }
theorem kwX6_findSteps_0 : Cond.fieldLink RX6 156 "WantsBenchModel" "positions" "I" ∈ wsX6_findSteps := by decide +kernel
theorem uwX6_findSteps_6 : ∀ w ∈ wsX60, w ∈ wsX6_findSteps := by decide +kernel
theorem kwX6_findSteps_2 : Cond.fieldLink RX6 149 "WantsBenchModel" "many" "I" ∈ wsX6_findSteps := by decide +kernel
theorem kwX6_findSteps_3 : Cond.fieldLink RX6 50 "WantsBenchModel" "step" "[I" ∈ wsX6_findSteps := by decide +kernel
theorem kwX6_findSteps_4 : Cond.fieldLink RX6 44 "WantsBenchModel" "own" "[I" ∈ wsX6_findSteps := by decide +kernel
theorem kwX6_findSteps_5 : Cond.fieldLink RX6 47 "WantsBenchModel" "ownNumber" "[I" ∈ wsX6_findSteps := by decide +kernel
def fX6_findSteps_34b (N : Nat) (S : RS) (v1 : Int32) (v2 : Int32) (v3 : Int32) (R : Int32 → RS → Prop) (K : RS → Prop) (Q : RS → Prop) : Prop :=
  ((64 ≤ v3 → K S) ∧ (¬ 64 ≤ v3 → (vp_in v1 5 ∧ (vp_in v1 5 ∧ (fX6_stateBehind N S (S.2.1 14 v1.toNatClampNeg) (S.2.1 15 v1.toNatClampNeg) v2 v3 (fun r8 => (vp_in (((((4 : Int32) * v1) + v2) * (64 : Int32)) + v3) 1280 ∧ (∀ S10 : RS, S10 = sA S 18 (upd (S.2.1 18) (((((4 : Int32) * v1) + v2) * (64 : Int32)) + v3).toNatClampNeg r8) → (∀ x11 : Int32, x11 = v3 + 1 → R x11 S10)))))))))
set_option maxRecDepth 100000 in
set_option maxHeartbeats 4000000 in
theorem wfX6_findSteps_34b {x : Nx} {g : Gx} {W0 : va_W} {a : Nat → Nat} {S : RS} {N : Nat} {v1 : Int32} {v2 : Int32} {v3 : Int32} {R : Int32 → RS → Prop} {K : RS → Prop} {Q : RS → Prop} (C : Cx x g cX6_findSteps RX6 wsX6_findSteps rmX6_findSteps yX6_findSteps none 4) (hZ : Zq x g W0 (fun u : RS => mW g a u) (qV (fun u : RS => Q u)) 0 0) (hR : ∀ (w3 : Int32) (S_ : RS), R w3 S_ → St x 0 0 (mW g a S_) [(0, .ref (a 50)), (1, .int v1), (2, .int v2), (3, .int w3)] [] 34) (hK : ∀ (S_ : RS), K S_ → St x 0 0 (mW g a S_) [(0, .ref (a 50)), (1, .int v1), (2, .int v2)] [] 79) (h : fX6_findSteps_34b N S v1 v2 v3 R K Q) : St x 0 0 (mW g a S) [(0, .ref (a 50)), (1, .int v1), (2, .int v2), (3, .int v3)] [] 34 := by
  unfold fX6_findSteps_34b at h
  refine r_iload_n C dX6_findSteps_34 rfl ?_
  refine r_bipush (v := 64) C dX6_findSteps_35 (by decide) ?_
  refine r_icmp_ge (tgt := 79) C dX6_findSteps_37 (by decide) (fun c5 => ?_) (fun c5 => ?_)
  · have h := h.1 c5
    refine r_sub [0, 1, 2] (lv' := [(0, .ref (a 50)), (1, .int v1), (2, .int v2)]) rfl ?_
    exact hK S h
  · have h := h.2 c5
    refine r_aload_n C dX6_findSteps_40 rfl ?_
    refine r_get (cn := RX6) (T := TX6) (N := 43) (ci := 6) C uwX6_findSteps_6 0 rfl rfl 18 (by decide) kwX6_findSteps_3 (v := .ref (a 18)) rfl dX6_findSteps_41 ?_
    refine r_iconst (v := 4) C dX6_findSteps_44 (by decide) ?_
    refine r_iload_n C dX6_findSteps_45 rfl ?_
    refine r_imul C dX6_findSteps_46 ?_
    refine r_iload_n C dX6_findSteps_47 rfl ?_
    refine r_iadd C dX6_findSteps_48 ?_
    refine r_bipush (v := 64) C dX6_findSteps_49 (by decide) ?_
    refine r_imul C dX6_findSteps_51 ?_
    refine r_iload_n C dX6_findSteps_52 rfl ?_
    refine r_iadd C dX6_findSteps_53 ?_
    refine r_aload_n C dX6_findSteps_54 rfl ?_
    refine r_aload_n C dX6_findSteps_55 rfl ?_
    refine r_get (cn := RX6) (T := TX6) (N := 43) (ci := 6) C uwX6_findSteps_6 0 rfl rfl 14 (by decide) kwX6_findSteps_4 (v := .ref (a 14)) rfl dX6_findSteps_56 ?_
    refine r_iload_n C dX6_findSteps_59 rfl ?_
    obtain ⟨hi6, h⟩ := h
    refine r_iald C 12 rfl hi6 dX6_findSteps_60 ?_
    refine r_aload_n C dX6_findSteps_61 rfl ?_
    refine r_get (cn := RX6) (T := TX6) (N := 43) (ci := 6) C uwX6_findSteps_6 0 rfl rfl 15 (by decide) kwX6_findSteps_5 (v := .ref (a 15)) rfl dX6_findSteps_62 ?_
    refine r_iload_n C dX6_findSteps_65 rfl ?_
    obtain ⟨hi7, h⟩ := h
    refine r_iald C 13 rfl hi7 dX6_findSteps_66 ?_
    refine r_iload_n C dX6_findSteps_67 rfl ?_
    refine r_iload_n C dX6_findSteps_68 rfl ?_
    refine callR_I C (run_V (As := [.int (S.2.1 14 v1.toNatClampNeg), .int (S.2.1 15 v1.toNatClampNeg), .int v2, .int v3]) (rest := [.int (((((4 : Int32) * v1) + v2) * (64 : Int32)) + v3), .ref (a 18)]) (ci := 6) C hZ.2.2 (tX6_stateBehind _ g a S N (S.2.1 14 v1.toNatClampNeg) (S.2.1 15 v1.toNatClampNeg) v2 v3 _ h) gX6_findSteps_X6_stateBehind rfl dsX6_stateBehind rfl rfl ⟨(Nat.le_of_ble_eq_true rfl), (Nat.le_of_ble_eq_true rfl)⟩ rfl (List.mem_of_getElem? (i := 0) rfl) rfl (Nat.le_of_ble_eq_true rfl) dX6_findSteps_69 ⟨Nat.zero_le _, Nat.zero_le _⟩) (List.Sublist.refl _) (fun _ => rfl) (fun r8 _ h => ?_)
    obtain ⟨hi9, h⟩ := h
    obtain ⟨S10, hS10⟩ : ∃ z : RS, z = sA S 18 (upd (S.2.1 18) (((((4 : Int32) * v1) + v2) * (64 : Int32)) + v3).toNatClampNeg r8) := ⟨_, rfl⟩
    have h := h S10 hS10
    refine r_iast (ws' := mW g a S10) C 14 rfl hi9 dX6_findSteps_72 (by rw [hS10]; rfl) ?_
    obtain ⟨x11, ex11⟩ : ∃ z : Int32, z = v3 + 1 := ⟨_, rfl⟩
    have h := h x11 ex11
    refine r_iinc (v := x11) (lv' := [(0, .ref (a 50)), (1, .int v1), (2, .int v2), (3, .int x11)]) C dX6_findSteps_73 rfl (by rw [ex11]; rfl) [some 0, some 1, some 2, none] (by decide) rfl rfl ?_
    refine r_goto (tgt := 34) C dX6_findSteps_76 (by decide) ?_
    exact hR x11 S10 h
def fX6_findSteps_34 (N : Nat) (v1 : Int32) (v2 : Int32) (K : RS → Prop) (Q : RS → Prop) : Nat → Int32 → RS → Prop
  | 0, _, _ => False
  | n + 1, v3, S => fX6_findSteps_34b N S v1 v2 v3 (fun v3 S => fX6_findSteps_34 N v1 v2 K Q n v3 S) K Q
set_option maxRecDepth 100000 in
set_option maxHeartbeats 4000000 in
theorem wfX6_findSteps_34 {x : Nx} {g : Gx} {W0 : va_W} {a : Nat → Nat}  {N : Nat} {v1 : Int32} {v2 : Int32} {K : RS → Prop} {Q : RS → Prop} (C : Cx x g cX6_findSteps RX6 wsX6_findSteps rmX6_findSteps yX6_findSteps none 4) (hZ : Zq x g W0 (fun u : RS => mW g a u) (qV (fun u : RS => Q u)) 0 0) (hK : ∀ (S_ : RS), K S_ → St x 0 0 (mW g a S_) [(0, .ref (a 50)), (1, .int v1), (2, .int v2)] [] 79) : ∀ (n : Nat) (v3 : Int32) (S : RS), fX6_findSteps_34 N v1 v2 K Q n v3 S → St x 0 0 (mW g a S) [(0, .ref (a 50)), (1, .int v1), (2, .int v2), (3, .int v3)] [] 34 := by
  intro n
  induction n with
  | zero => intro v3 S h; exact False.elim h
  | succ n ih => intro v3 S h; exact wfX6_findSteps_34b C hZ ih hK h
def fX6_findSteps_27b (N : Nat) (S : RS) (v1 : Int32) (v2 : Int32) (R : Int32 → RS → Prop) (K : RS → Prop) (Q : RS → Prop) : Prop :=
  ((4 ≤ v2 → K S) ∧ (¬ 4 ≤ v2 → (fX6_findSteps_34 N v1 v2 (fun S12 => (∀ x13 : Int32, x13 = v2 + 1 → R x13 S12)) Q N 0 S)))
set_option maxRecDepth 100000 in
set_option maxHeartbeats 4000000 in
theorem wfX6_findSteps_27b {x : Nx} {g : Gx} {W0 : va_W} {a : Nat → Nat} {S : RS} {N : Nat} {v1 : Int32} {v2 : Int32} {R : Int32 → RS → Prop} {K : RS → Prop} {Q : RS → Prop} (C : Cx x g cX6_findSteps RX6 wsX6_findSteps rmX6_findSteps yX6_findSteps none 4) (hZ : Zq x g W0 (fun u : RS => mW g a u) (qV (fun u : RS => Q u)) 0 0) (hR : ∀ (w2 : Int32) (S_ : RS), R w2 S_ → St x 0 0 (mW g a S_) [(0, .ref (a 50)), (1, .int v1), (2, .int w2)] [] 27) (hK : ∀ (S_ : RS), K S_ → St x 0 0 (mW g a S_) [(0, .ref (a 50)), (1, .int v1)] [] 85) (h : fX6_findSteps_27b N S v1 v2 R K Q) : St x 0 0 (mW g a S) [(0, .ref (a 50)), (1, .int v1), (2, .int v2)] [] 27 := by
  unfold fX6_findSteps_27b at h
  refine r_iload_n C dX6_findSteps_27 rfl ?_
  refine r_iconst (v := 4) C dX6_findSteps_28 (by decide) ?_
  refine r_icmp_ge (tgt := 85) C dX6_findSteps_29 (by decide) (fun c4 => ?_) (fun c4 => ?_)
  · have h := h.1 c4
    refine r_sub [0, 1] (lv' := [(0, .ref (a 50)), (1, .int v1)]) rfl ?_
    exact hK S h
  · have h := h.2 c4
    refine r_iconst (v := 0) C dX6_findSteps_32 (by decide) ?_
    refine r_istore_n (lv' := [(0, .ref (a 50)), (1, .int v1), (2, .int v2), (3, .int 0)]) C dX6_findSteps_33 [some 0, some 1, some 2, none] (by decide) rfl rfl ?_
    refine wfX6_findSteps_34 C hZ (fun S12 h => ?_) N _ _ h
    obtain ⟨x13, ex13⟩ : ∃ z : Int32, z = v2 + 1 := ⟨_, rfl⟩
    have h := h x13 ex13
    refine r_iinc (v := x13) (lv' := [(0, .ref (a 50)), (1, .int v1), (2, .int x13)]) C dX6_findSteps_79 rfl (by rw [ex13]; rfl) [some 0, some 1, none] (by decide) rfl rfl ?_
    refine r_goto (tgt := 27) C dX6_findSteps_82 (by decide) ?_
    exact hR x13 S12 h
def fX6_findSteps_27 (N : Nat) (v1 : Int32) (K : RS → Prop) (Q : RS → Prop) : Nat → Int32 → RS → Prop
  | 0, _, _ => False
  | n + 1, v2, S => fX6_findSteps_27b N S v1 v2 (fun v2 S => fX6_findSteps_27 N v1 K Q n v2 S) K Q
set_option maxRecDepth 100000 in
set_option maxHeartbeats 4000000 in
theorem wfX6_findSteps_27 {x : Nx} {g : Gx} {W0 : va_W} {a : Nat → Nat}  {N : Nat} {v1 : Int32} {K : RS → Prop} {Q : RS → Prop} (C : Cx x g cX6_findSteps RX6 wsX6_findSteps rmX6_findSteps yX6_findSteps none 4) (hZ : Zq x g W0 (fun u : RS => mW g a u) (qV (fun u : RS => Q u)) 0 0) (hK : ∀ (S_ : RS), K S_ → St x 0 0 (mW g a S_) [(0, .ref (a 50)), (1, .int v1)] [] 85) : ∀ (n : Nat) (v2 : Int32) (S : RS), fX6_findSteps_27 N v1 K Q n v2 S → St x 0 0 (mW g a S) [(0, .ref (a 50)), (1, .int v1), (2, .int v2)] [] 27 := by
  intro n
  induction n with
  | zero => intro v2 S h; exact False.elim h
  | succ n ih => intro v2 S h; exact wfX6_findSteps_27b C hZ ih hK h
def fX6_findSteps_7b (N : Nat) (S : RS) (v1 : Int32) (R : Int32 → RS → Prop) (K : RS → Prop) (Q : RS → Prop) : Prop :=
  (((S.1 16) ≤ v1 → K S) ∧ (¬ (S.1 16) ≤ v1 → (∀ S3 : RS, S3 = sI S 17 ((S.1 17) * (4 : Int32)) → (fX6_findSteps_27 N v1 (fun S14 => (∀ x15 : Int32, x15 = v1 + 1 → R x15 S14)) Q N 0 S3))))
set_option maxRecDepth 100000 in
set_option maxHeartbeats 4000000 in
theorem wfX6_findSteps_7b {x : Nx} {g : Gx} {W0 : va_W} {a : Nat → Nat} {S : RS} {N : Nat} {v1 : Int32} {R : Int32 → RS → Prop} {K : RS → Prop} {Q : RS → Prop} (C : Cx x g cX6_findSteps RX6 wsX6_findSteps rmX6_findSteps yX6_findSteps none 4) (hZ : Zq x g W0 (fun u : RS => mW g a u) (qV (fun u : RS => Q u)) 0 0) (hR : ∀ (w1 : Int32) (S_ : RS), R w1 S_ → St x 0 0 (mW g a S_) [(0, .ref (a 50)), (1, .int w1)] [] 7) (hK : ∀ (S_ : RS), K S_ → St x 0 0 (mW g a S_) [] [] 91) (h : fX6_findSteps_7b N S v1 R K Q) : St x 0 0 (mW g a S) [(0, .ref (a 50)), (1, .int v1)] [] 7 := by
  unfold fX6_findSteps_7b at h
  refine r_iload_n C dX6_findSteps_7 rfl ?_
  refine r_aload_n C dX6_findSteps_8 rfl ?_
  refine r_get (cn := RX6) (T := TX6) (N := 43) (ci := 6) C uwX6_findSteps_6 0 rfl rfl 16 (by decide) kwX6_findSteps_2 (v := .int (S.1 16)) rfl dX6_findSteps_9 ?_
  refine r_icmp_ge (tgt := 91) C dX6_findSteps_12 (by decide) (fun c2 => ?_) (fun c2 => ?_)
  · have h := h.1 c2
    refine r_sub [] (lv' := []) rfl ?_
    exact hK S h
  · have h := h.2 c2
    refine r_aload_n C dX6_findSteps_15 rfl ?_
    refine r_dup C dX6_findSteps_16 rfl ?_
    refine r_get (cn := RX6) (T := TX6) (N := 43) (ci := 6) C uwX6_findSteps_6 0 rfl rfl 17 (by decide) kwX6_findSteps_0 (v := .int (S.1 17)) rfl dX6_findSteps_17 ?_
    refine r_iconst (v := 4) C dX6_findSteps_20 (by decide) ?_
    refine r_imul C dX6_findSteps_21 ?_
    obtain ⟨S3, hS3⟩ : ∃ z : RS, z = sI S 17 ((S.1 17) * (4 : Int32)) := ⟨_, rfl⟩
    have h := h S3 hS3
    refine r_put (cn := RX6) (T := TX6) (N := 43) (ci := 6) (ws' := mW g a S3) C uwX6_findSteps_6 tyX6 tyX6_ok nmX6 0 rfl rfl 17 (by decide) kwX6_findSteps_0 rfl rfl rfl (Nat.le_of_ble_eq_true rfl) dX6_findSteps_22 (by rw [hS3]; rfl) ?_
    refine r_iconst (v := 0) C dX6_findSteps_25 (by decide) ?_
    refine r_istore_n (lv' := [(0, .ref (a 50)), (1, .int v1), (2, .int 0)]) C dX6_findSteps_26 [some 0, some 1, none] (by decide) rfl rfl ?_
    refine wfX6_findSteps_27 C hZ (fun S14 h => ?_) N _ _ h
    obtain ⟨x15, ex15⟩ : ∃ z : Int32, z = v1 + 1 := ⟨_, rfl⟩
    have h := h x15 ex15
    refine r_iinc (v := x15) (lv' := [(0, .ref (a 50)), (1, .int x15)]) C dX6_findSteps_85 rfl (by rw [ex15]; rfl) [some 0, none] (by decide) rfl rfl ?_
    refine r_goto (tgt := 7) C dX6_findSteps_88 (by decide) ?_
    exact hR x15 S14 h
def fX6_findSteps_7 (N : Nat) (K : RS → Prop) (Q : RS → Prop) : Nat → Int32 → RS → Prop
  | 0, _, _ => False
  | n + 1, v1, S => fX6_findSteps_7b N S v1 (fun v1 S => fX6_findSteps_7 N K Q n v1 S) K Q
set_option maxRecDepth 100000 in
set_option maxHeartbeats 4000000 in
theorem wfX6_findSteps_7 {x : Nx} {g : Gx} {W0 : va_W} {a : Nat → Nat}  {N : Nat} {K : RS → Prop} {Q : RS → Prop} (C : Cx x g cX6_findSteps RX6 wsX6_findSteps rmX6_findSteps yX6_findSteps none 4) (hZ : Zq x g W0 (fun u : RS => mW g a u) (qV (fun u : RS => Q u)) 0 0) (hK : ∀ (S_ : RS), K S_ → St x 0 0 (mW g a S_) [] [] 91) : ∀ (n : Nat) (v1 : Int32) (S : RS), fX6_findSteps_7 N K Q n v1 S → St x 0 0 (mW g a S) [(0, .ref (a 50)), (1, .int v1)] [] 7 := by
  intro n
  induction n with
  | zero => intro v1 S h; exact False.elim h
  | succ n ih => intro v1 S h; exact wfX6_findSteps_7b C hZ ih hK h
def fX6_findSteps (N : Nat) (S : RS) (Q : RS → Prop) : Prop :=
  (∀ S1 : RS, S1 = sI S 17 1 → (fX6_findSteps_7 N (fun S16 => Q S16) Q N 0 S1))
set_option maxRecDepth 100000 in
set_option maxHeartbeats 4000000 in
theorem tX6_findSteps (l : Launch) (g : Gx) (a : Nat → Nat) (S : RS) (N : Nat) (Q : RS → Prop) (h : fX6_findSteps N S Q) : MetG l g yX6_findSteps wsX6_findSteps rmX6_findSteps [.ref (a 50)] (mW g a S) (fun u : RS => mW g a u) (qV (fun u : RS => Q u)) 0 0 := by
  refine met_of (cc := cX6_findSteps) (own := RX6) (nL := 4) (ret := none) (lv := [(0, .ref (a 50))]) (by decide) rfl rfl (Nat.le_of_ble_eq_true rfl) rfl ?_
  intro x C hl hZ
  subst hl
  unfold fX6_findSteps at h
  refine r_aload_n C dX6_findSteps_0 rfl ?_
  refine r_iconst (v := 1) C dX6_findSteps_1 (by decide) ?_
  obtain ⟨S1, hS1⟩ : ∃ z : RS, z = sI S 17 1 := ⟨_, rfl⟩
  have h := h S1 hS1
  refine r_put (cn := RX6) (T := TX6) (N := 43) (ci := 6) (ws' := mW g a S1) C uwX6_findSteps_6 tyX6 tyX6_ok nmX6 0 rfl rfl 17 (by decide) kwX6_findSteps_0 rfl rfl rfl (Nat.le_of_ble_eq_true rfl) dX6_findSteps_2 (by rw [hS1]; rfl) ?_
  refine r_iconst (v := 0) C dX6_findSteps_5 (by decide) ?_
  refine r_istore_n (lv' := [(0, .ref (a 50)), (1, .int 0)]) C dX6_findSteps_6 [some 0, none] (by decide) rfl rfl ?_
  refine wfX6_findSteps_7 C hZ (fun S16 h => ?_) N _ _ h
  exact r_vret C hZ (u := S16) h rfl dX6_findSteps_91
def rmX6_behind : Room := { frames := 0, cells := 0, slots := 0, locals := 0 }
theorem kwX6_behind_0 : Cond.fieldLink RX6 149 "WantsBenchModel" "many" "I" ∈ wsX6_behind := by decide +kernel
theorem uwX6_behind_6 : ∀ w ∈ wsX60, w ∈ wsX6_behind := by decide +kernel
theorem kwX6_behind_2 : Cond.fieldLink RX6 50 "WantsBenchModel" "step" "[I" ∈ wsX6_behind := by decide +kernel
def fX6_behind_11b (N : Nat) (S : RS) (v2 : Int32) (v3 : Int32) (v4 : Int32) (v5 : Int32) (v6 : Int32) (R : Int32 → Int32 → Int32 → Int32 → Prop) (K : Int32 → Prop) (Q : Int32 → Prop) : Prop :=
  (((S.1 16) ≤ v6 → K v3) ∧ (¬ (S.1 16) ≤ v6 → (vp_in (((((4 : Int32) * v6) + (v5 - v5 / (4 : Int32) * (4 : Int32))) * (64 : Int32)) + v2) 1280 ∧ (∀ x3 : Int32, x3 = S.2.1 18 (((((4 : Int32) * v6) + (v5 - v5 / (4 : Int32) * (4 : Int32))) * (64 : Int32)) + v2).toNatClampNeg → ((0 ≤ x3 → (∀ x5 : Int32, x5 = v3 + (v4 * x3) → (∀ x6 : Int32, x6 = v4 * (4 : Int32) → (∀ x7 : Int32, x7 = v5 / (4 : Int32) → (∀ x8 : Int32, x8 = v6 + 1 → R x5 x6 x7 x8))))) ∧ (¬ 0 ≤ x3 → Q (-1)))))))
set_option maxRecDepth 100000 in
set_option maxHeartbeats 4000000 in
theorem wfX6_behind_11b {x : Nx} {g : Gx} {W0 : va_W} {a : Nat → Nat} {S : RS} {N : Nat} {v2 : Int32} {v3 : Int32} {v4 : Int32} {v5 : Int32} {v6 : Int32} {R : Int32 → Int32 → Int32 → Int32 → Prop} {K : Int32 → Prop} {Q : Int32 → Prop} (C : Cx x g cX6_behind RX6 wsX6_behind rmX6_behind yX6_behind (some .int) 8) (hZ : Zq x g W0 (fun _ : Unit => mW g a S) (qI (fun (r : Int32) (_ : Unit) => Q r)) 0 0) (hR : ∀ (w3 : Int32) (w4 : Int32) (w5 : Int32) (w6 : Int32), R w3 w4 w5 w6 → St x 0 0 (mW g a S) [(0, .ref (a 50)), (2, .int v2), (3, .int w3), (4, .int w4), (5, .int w5), (6, .int w6)] [] 11) (hK : ∀ (w3 : Int32), K w3 → St x 0 0 (mW g a S) [(3, .int w3)] [] 74) (h : fX6_behind_11b N S v2 v3 v4 v5 v6 R K Q) : St x 0 0 (mW g a S) [(0, .ref (a 50)), (2, .int v2), (3, .int v3), (4, .int v4), (5, .int v5), (6, .int v6)] [] 11 := by
  unfold fX6_behind_11b at h
  refine r_iload C dX6_behind_11 rfl ?_
  refine r_aload_n C dX6_behind_13 rfl ?_
  refine r_get (cn := RX6) (T := TX6) (N := 43) (ci := 6) C uwX6_behind_6 0 rfl rfl 16 (by decide) kwX6_behind_0 (v := .int (S.1 16)) rfl dX6_behind_14 ?_
  refine r_icmp_ge (tgt := 74) C dX6_behind_17 (by decide) (fun c1 => ?_) (fun c1 => ?_)
  · have h := h.1 c1
    refine r_sub [2] (lv' := [(3, .int v3)]) rfl ?_
    exact hK v3 h
  · have h := h.2 c1
    refine r_aload_n C dX6_behind_20 rfl ?_
    refine r_get (cn := RX6) (T := TX6) (N := 43) (ci := 6) C uwX6_behind_6 0 rfl rfl 18 (by decide) kwX6_behind_2 (v := .ref (a 18)) rfl dX6_behind_21 ?_
    refine r_iconst (v := 4) C dX6_behind_24 (by decide) ?_
    refine r_iload C dX6_behind_25 rfl ?_
    refine r_imul C dX6_behind_27 ?_
    refine r_iload C dX6_behind_28 rfl ?_
    refine r_iconst (v := 4) C dX6_behind_30 (by decide) ?_
    refine r_irem C dX6_behind_31 (by decide) ?_
    refine r_iadd C dX6_behind_32 ?_
    refine r_bipush (v := 64) C dX6_behind_33 (by decide) ?_
    refine r_imul C dX6_behind_35 ?_
    refine r_iload_n C dX6_behind_36 rfl ?_
    refine r_iadd C dX6_behind_37 ?_
    obtain ⟨hi2, h⟩ := h
    refine r_iald C 14 rfl hi2 dX6_behind_38 ?_
    refine r_topi (fun x3 ex3 => ?_)
    have h := h x3 ex3
    refine r_istore (lv' := [(0, .ref (a 50)), (2, .int v2), (3, .int v3), (4, .int v4), (5, .int v5), (6, .int v6), (7, .int x3)]) C dX6_behind_39 [some 0, some 1, some 2, some 3, some 4, some 5, none] (by decide) rfl rfl ?_
    refine r_iload C dX6_behind_41 rfl ?_
    refine r_if_ge (tgt := 48) C dX6_behind_43 (by decide) (fun c4 => ?_) (fun c4 => ?_)
    · have h := h.1 c4
      refine r_iload_n C dX6_behind_48 rfl ?_
      refine r_iload C dX6_behind_49 rfl ?_
      refine r_iload C dX6_behind_51 rfl ?_
      refine r_imul C dX6_behind_53 ?_
      refine r_iadd C dX6_behind_54 ?_
      refine r_topi (fun x5 ex5 => ?_)
      have h := h x5 ex5
      refine r_istore_n (lv' := [(0, .ref (a 50)), (2, .int v2), (3, .int x5), (4, .int v4), (5, .int v5), (6, .int v6)]) C dX6_behind_55 [some 0, some 1, none, some 3, some 4, some 5] (by decide) rfl rfl ?_
      refine r_iload C dX6_behind_56 rfl ?_
      refine r_iconst (v := 4) C dX6_behind_58 (by decide) ?_
      refine r_imul C dX6_behind_59 ?_
      refine r_topi (fun x6 ex6 => ?_)
      have h := h x6 ex6
      refine r_istore (lv' := [(0, .ref (a 50)), (2, .int v2), (3, .int x5), (4, .int x6), (5, .int v5), (6, .int v6)]) C dX6_behind_60 [some 0, some 1, some 2, none, some 4, some 5] (by decide) rfl rfl ?_
      refine r_iload C dX6_behind_62 rfl ?_
      refine r_iconst (v := 4) C dX6_behind_64 (by decide) ?_
      refine r_idiv C dX6_behind_65 (by decide) ?_
      refine r_topi (fun x7 ex7 => ?_)
      have h := h x7 ex7
      refine r_istore (lv' := [(0, .ref (a 50)), (2, .int v2), (3, .int x5), (4, .int x6), (5, .int x7), (6, .int v6)]) C dX6_behind_66 [some 0, some 1, some 2, some 3, none, some 5] (by decide) rfl rfl ?_
      obtain ⟨x8, ex8⟩ : ∃ z : Int32, z = v6 + 1 := ⟨_, rfl⟩
      have h := h x8 ex8
      refine r_iinc (v := x8) (lv' := [(0, .ref (a 50)), (2, .int v2), (3, .int x5), (4, .int x6), (5, .int x7), (6, .int x8)]) C dX6_behind_68 rfl (by rw [ex8]; rfl) [some 0, some 1, some 2, some 3, some 4, none] (by decide) rfl rfl ?_
      refine r_goto (tgt := 11) C dX6_behind_71 (by decide) ?_
      exact hR x5 x6 x7 x8 h
    · have h := h.2 c4
      refine r_iconst (v := (-1)) C dX6_behind_46 (by decide) ?_
      exact r_iret C hZ (u := ()) h rfl dX6_behind_47
def fX6_behind_11 (N : Nat) (S : RS) (v2 : Int32) (K : Int32 → Prop) (Q : Int32 → Prop) : Nat → Int32 → Int32 → Int32 → Int32 → Prop
  | 0, _, _, _, _ => False
  | n + 1, v3, v4, v5, v6 => fX6_behind_11b N S v2 v3 v4 v5 v6 (fun v3 v4 v5 v6 => fX6_behind_11 N S v2 K Q n v3 v4 v5 v6) K Q
set_option maxRecDepth 100000 in
set_option maxHeartbeats 4000000 in
theorem wfX6_behind_11 {x : Nx} {g : Gx} {W0 : va_W} {a : Nat → Nat} {S : RS} {N : Nat} {v2 : Int32} {K : Int32 → Prop} {Q : Int32 → Prop} (C : Cx x g cX6_behind RX6 wsX6_behind rmX6_behind yX6_behind (some .int) 8) (hZ : Zq x g W0 (fun _ : Unit => mW g a S) (qI (fun (r : Int32) (_ : Unit) => Q r)) 0 0) (hK : ∀ (w3 : Int32), K w3 → St x 0 0 (mW g a S) [(3, .int w3)] [] 74) : ∀ (n : Nat) (v3 : Int32) (v4 : Int32) (v5 : Int32) (v6 : Int32), fX6_behind_11 N S v2 K Q n v3 v4 v5 v6 → St x 0 0 (mW g a S) [(0, .ref (a 50)), (2, .int v2), (3, .int v3), (4, .int v4), (5, .int v5), (6, .int v6)] [] 11 := by
  intro n
  induction n with
  | zero => intro v3 v4 v5 v6 h; exact False.elim h
  | succ n ih => intro v3 v4 v5 v6 h; exact wfX6_behind_11b C hZ ih hK h
def fX6_behind (N : Nat) (S : RS) (v1 : Int32) (v2 : Int32) (Q : Int32 → Prop) : Prop :=
  (fX6_behind_11 N S v2 (fun x9 => Q x9) Q N 0 1 v1 0)
set_option maxRecDepth 100000 in
set_option maxHeartbeats 4000000 in
theorem tX6_behind (l : Launch) (g : Gx) (a : Nat → Nat) (S : RS) (N : Nat) (v1 : Int32) (v2 : Int32) (Q : Int32 → Prop) (h : fX6_behind N S v1 v2 Q) : MetG l g yX6_behind wsX6_behind rmX6_behind [.ref (a 50), .int v1, .int v2] (mW g a S) (fun _ : Unit => mW g a S) (qI (fun (r : Int32) (_ : Unit) => Q r)) 0 0 := by
  refine met_of (cc := cX6_behind) (own := RX6) (nL := 8) (ret := (some .int)) (lv := [(0, .ref (a 50)), (1, .int v1), (2, .int v2)]) (by decide) rfl rfl (Nat.le_of_ble_eq_true rfl) rfl ?_
  intro x C hl hZ
  subst hl
  unfold fX6_behind at h
  refine r_iconst (v := 0) C dX6_behind_0 (by decide) ?_
  refine r_istore_n (lv' := [(0, .ref (a 50)), (1, .int v1), (2, .int v2), (3, .int 0)]) C dX6_behind_1 [some 0, some 1, some 2, none] (by decide) rfl rfl ?_
  refine r_iconst (v := 1) C dX6_behind_2 (by decide) ?_
  refine r_istore (lv' := [(0, .ref (a 50)), (1, .int v1), (2, .int v2), (3, .int 0), (4, .int 1)]) C dX6_behind_3 [some 0, some 1, some 2, some 3, none] (by decide) rfl rfl ?_
  refine r_iload_n C dX6_behind_5 rfl ?_
  refine r_istore (lv' := [(0, .ref (a 50)), (2, .int v2), (3, .int 0), (4, .int 1), (5, .int v1)]) C dX6_behind_6 [some 0, some 2, some 3, some 4, none] (by decide) rfl rfl ?_
  refine r_iconst (v := 0) C dX6_behind_8 (by decide) ?_
  refine r_istore (lv' := [(0, .ref (a 50)), (2, .int v2), (3, .int 0), (4, .int 1), (5, .int v1), (6, .int 0)]) C dX6_behind_9 [some 0, some 1, some 2, some 3, some 4, none] (by decide) rfl rfl ?_
  refine wfX6_behind_11 C hZ (fun x9 h => ?_) N _ _ _ _ h
  refine r_iload_n C dX6_behind_74 rfl ?_
  exact r_iret C hZ (u := ()) h rfl dX6_behind_75
