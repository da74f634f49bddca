def rmX5_next : Room := { frames := 3, cells := 0, slots := 0, locals := 74 }
def fX5_next (N : Nat) (sb : RS) (lw : Nat → Option Nat) (lp : List Nat) (pf : Nat → RS) (v1 : Int32) (v2 : Int32) (v3 : Int32) (Q : Int32 → Prop) : Prop :=
  (fX5_lawOf N sb lw v1 (fun r1 => ((r1 = none → Q (-1)) ∧ (∀ q2 : Nat, r1 = some q2 → (fX5_isWithin N v2 0 3 (fun r3 => ((r3 = 0 → Q (-1)) ∧ (¬ r3 = 0 → (fX5_isWithin N v3 0 63 (fun r5 => ((¬ r5 = 0 → (q2 ∈ lp ∧ (fX1_after N (pf q2) v2 v3 (fun r8 => ((¬ r8 = (-1) → Q r8) ∧ (r8 = (-1) → Q (-4))))))) ∧ (r5 = 0 → Q (-1)))))))))))))
set_option maxRecDepth 100000 in
set_option maxHeartbeats 4000000 in
theorem tX5_next (l : Launch) (g : Gx) (a : Nat → Nat → Nat) (sb : RS) (lw : Nat → Option Nat) (st : RS) (sp : RS) (sd : RS) (ss : RS) (sy : RS) (si : Nat → Option Nat) (lp : List Nat) (pf : Nat → RS) (N : Nat) (v1 : Int32) (v2 : Int32) (v3 : Int32) (Q : Int32 → Prop) (h : fX5_next N sb lw lp pf v1 v2 v3 Q) : MetG l g yX5_next wsX5_next rmX5_next [.ref ((a 0) 50), .int v1, .int v2, .int v3] (sysW g a sb lw st sp sd ss sy si lp pf) (fun _ : Unit => sysW g a sb lw st sp sd ss sy si lp pf) (qI (fun (r : Int32) (_ : Unit) => Q r)) 0 0 := by
  refine met_of (cc := cX5_next) (own := RX5) (nL := 6) (ret := (some .int)) (lv := [(0, .ref ((a 0) 50)), (1, .int v1), (2, .int v2), (3, .int v3)]) (by decide) rfl rfl (Nat.le_of_ble_eq_true rfl) rfl ?_
  intro x C hl hZ
  subst hl
  unfold fX5_next at h
  refine r_aload_n C dX5_next_0 rfl ?_
  refine r_iload_n C dX5_next_1 rfl ?_
  refine callR_A C (run_V (As := [.int v1]) (rest := []) (ci := 5) C hZ.2.2 (tX5_lawOf _ g a sb lw st sp sd ss sy si lp pf N v1 _ h) gX5_next_X5_lawOf rfl dsX5_lawOf rfl rfl ⟨(Nat.le_of_ble_eq_true rfl), (Nat.le_of_ble_eq_true rfl)⟩ rfl (List.mem_of_getElem? (i := 0) rfl) rfl (Nat.le_of_ble_eq_true rfl) dX5_next_2 ⟨Nat.zero_le _, Nat.zero_le _⟩) (List.Sublist.refl _) (fun _ => rfl) (fun r1 _ h => ?_)
  cases r1 with
  | none =>
    have h := h.1 rfl
    show St x _ _ _ _ [.null] _
    refine r_astoreN (lv' := [(2, .int v2), (3, .int v3), (4, .null)]) C dX5_next_5 [some 2, some 3, none] (by decide) rfl rfl ?_
    refine r_aloadN C dX5_next_7 rfl ?_
    refine r_ifnullN (tgt := 31) C dX5_next_9 (by decide) ?_
    refine r_iconst (v := (-1)) C dX5_next_31 (by decide) ?_
    exact r_iret C hZ (u := ()) h rfl dX5_next_32
  | some q2 =>
    have h := h.2 q2 rfl
    show St x _ _ _ _ [.ref q2] _
    refine r_astore (lv' := [(2, .int v2), (3, .int v3), (4, .ref q2)]) C dX5_next_5 [some 2, some 3, none] (by decide) rfl rfl ?_
    refine r_aload C dX5_next_7 rfl ?_
    refine r_ifnull C dX5_next_9 ?_
    refine r_iload_n C dX5_next_12 rfl ?_
    refine r_iconst (v := 0) C dX5_next_13 (by decide) ?_
    refine r_iconst (v := 3) C dX5_next_14 (by decide) ?_
    refine callR_I C (run_S (As := [.int v2, .int 0, .int 3]) (rest := []) C hZ.2.2 (tX5_isWithin _ g N v2 0 3 _ h) gX5_next_X5_isWithin rfl dsX5_isWithin rfl rfl ⟨(Nat.le_of_ble_eq_true rfl), (Nat.le_of_ble_eq_true rfl)⟩ rfl (Nat.le_of_ble_eq_true rfl) dX5_next_15 ⟨Nat.zero_le _, Nat.zero_le _⟩) (List.nil_sublist _) (fun _ => rfl) (fun r3 _ h => ?_)
    refine r_if_eq (tgt := 31) C dX5_next_18 (by decide) (fun c4 => ?_) (fun c4 => ?_)
    · have h := h.1 c4
      refine r_iconst (v := (-1)) C dX5_next_31 (by decide) ?_
      exact r_iret C hZ (u := ()) h rfl dX5_next_32
    · have h := h.2 c4
      refine r_iload_n C dX5_next_21 rfl ?_
      refine r_iconst (v := 0) C dX5_next_22 (by decide) ?_
      refine r_bipush (v := 63) C dX5_next_23 (by decide) ?_
      refine callR_I C (run_S (As := [.int v3, .int 0, .int 63]) (rest := []) C hZ.2.2 (tX5_isWithin _ g N v3 0 63 _ h) gX5_next_X5_isWithin rfl dsX5_isWithin rfl rfl ⟨(Nat.le_of_ble_eq_true rfl), (Nat.le_of_ble_eq_true rfl)⟩ rfl (Nat.le_of_ble_eq_true rfl) dX5_next_25 ⟨Nat.zero_le _, Nat.zero_le _⟩) (List.nil_sublist _) (fun _ => rfl) (fun r5 _ h => ?_)
      refine r_if_ne (tgt := 33) C dX5_next_28 (by decide) (fun c6 => ?_) (fun c6 => ?_)
      · have h := h.1 c6
        refine r_aload C dX5_next_33 rfl ?_
        refine r_iload_n C dX5_next_35 rfl ?_
        refine r_iload_n C dX5_next_36 rfl ?_
        obtain ⟨hq7, h⟩ := h
        refine callR_I C (run_V (As := [.int v2, .int v3]) (rest := []) (ci := 1) C hZ.2.2 (tX1_after _ g q2 (pf q2) N v2 v3 _ h) gX5_next_X1_after rfl dsX1_after rfl rfl ⟨(Nat.le_of_ble_eq_true rfl), (Nat.le_of_ble_eq_true rfl)⟩ rfl (List.mem_append_right _ (pl_mem hq7)) rfl (Nat.le_of_ble_eq_true rfl) dX5_next_37 ⟨Nat.zero_le _, Nat.zero_le _⟩) (slq hq7) (fun _ => rfl) (fun r8 _ h => ?_)
        refine r_istore (lv' := [(5, .int r8)]) C dX5_next_40 [none] (by decide) rfl rfl ?_
        refine r_iload C dX5_next_42 rfl ?_
        refine r_iconst (v := (-1)) C dX5_next_44 (by decide) ?_
        refine r_icmp_ne (tgt := 53) C dX5_next_45 (by decide) (fun c9 => ?_) (fun c9 => ?_)
        · have h := h.1 c9
          refine r_iload C dX5_next_53 rfl ?_
          exact r_iret C hZ (u := ()) h rfl dX5_next_55
        · have h := h.2 c9
          refine r_bipush (v := (-4)) C dX5_next_48 (by decide) ?_
          refine r_goto (tgt := 55) C dX5_next_50 (by decide) ?_
          exact r_iret C hZ (u := ()) h rfl dX5_next_55
      · have h := h.2 c6
        refine r_iconst (v := (-1)) C dX5_next_31 (by decide) ?_
        exact r_iret C hZ (u := ()) h rfl dX5_next_32
def rmX5_isSet : Room := { frames := 1, cells := 0, slots := 0, locals := 20 }
theorem kwX5_isSet_0 : Cond.fieldLink RX5 65 "WantsBench" "lawCount" "I" ∈ wsX5_isSet := by decide +kernel
theorem uwX5_isSet_5 : ∀ w ∈ wsX50, w ∈ wsX5_isSet := by decide +kernel
def fX5_isSet (N : Nat) (sb : RS) (v1 : Int32) (v2 : Int32) (Q : Int32 → Prop) : Prop :=
  ((v1 ≤ 0 → Q 0) ∧ (¬ v1 ≤ 0 → ((¬ ((v1.toUInt32 >>> ((sb.1 2).toUInt32 &&& Int32.toUInt32 31)).toInt32) = 0 → Q 0) ∧ (((v1.toUInt32 >>> ((sb.1 2).toUInt32 &&& Int32.toUInt32 31)).toInt32) = 0 → (fJ6_bitCount_0f7a4 N v1 (fun r3 => ((v2 < r3 → Q 0) ∧ (¬ v2 < r3 → Q 1))))))))
set_option maxRecDepth 100000 in
set_option maxHeartbeats 4000000 in
theorem tX5_isSet (l : Launch) (g : Gx) (a : Nat → Nat → Nat) (sb : RS) (lw : Nat → Option Nat) (st : RS) (sp : RS) (sd : RS) (ss : RS) (sy : RS) (si : Nat → Option Nat) (lp : List Nat) (pf : Nat → RS) (N : Nat) (v1 : Int32) (v2 : Int32) (Q : Int32 → Prop) (h : fX5_isSet N sb v1 v2 Q) : MetG l g yX5_isSet wsX5_isSet rmX5_isSet [.ref ((a 0) 50), .int v1, .int v2] (sysW g a sb lw st sp sd ss sy si lp pf) (fun _ : Unit => sysW g a sb lw st sp sd ss sy si lp pf) (qI (fun (r : Int32) (_ : Unit) => Q r)) 0 0 := by
  refine met_of (cc := cX5_isSet) (own := RX5) (nL := 3) (ret := (some .boolean)) (lv := [(0, .ref ((a 0) 50)), (1, .int v1), (2, .int v2)]) (by decide) rfl rfl (Nat.le_of_ble_eq_true rfl) rfl ?_
  intro x C hl hZ
  subst hl
  unfold fX5_isSet at h
  refine r_iload_n C dX5_isSet_0 rfl ?_
  refine r_if_le (tgt := 25) C dX5_isSet_1 (by decide) (fun c1 => ?_) (fun c1 => ?_)
  · have h := h.1 c1
    refine r_iconst (v := 0) C dX5_isSet_25 (by decide) ?_
    exact r_zret C hZ (u := ()) (by decide) h rfl dX5_isSet_26
  · have h := h.2 c1
    refine r_iload_n C dX5_isSet_4 rfl ?_
    refine r_aload_n C dX5_isSet_5 rfl ?_
    refine r_get (cn := RX5) (T := TX5) (N := 13) (ci := 5) C uwX5_isSet_5 0 rfl rfl 2 (by decide) kwX5_isSet_0 (v := .int (sb.1 2)) rfl dX5_isSet_6 ?_
    refine r_iushr C dX5_isSet_9 ?_
    refine r_if_ne (tgt := 25) C dX5_isSet_10 (by decide) (fun c2 => ?_) (fun c2 => ?_)
    · have h := h.1 c2
      refine r_iconst (v := 0) C dX5_isSet_25 (by decide) ?_
      exact r_zret C hZ (u := ()) (by decide) h rfl dX5_isSet_26
    · have h := h.2 c2
      refine r_iload_n C dX5_isSet_13 rfl ?_
      refine callR_I C (run_S (As := [.int v1]) (rest := []) C hZ.2.2 (tJ6_bitCount_0f7a4 _ g N v1 _ h) gX5_isSet_J6_bitCount_0f7a4 rfl dsJ6_bitCount_0f7a4 rfl rfl ⟨(Nat.le_of_ble_eq_true rfl), (Nat.le_of_ble_eq_true rfl)⟩ rfl (Nat.le_of_ble_eq_true rfl) dX5_isSet_14 ⟨Nat.zero_le _, Nat.zero_le _⟩) (List.nil_sublist _) (fun _ => rfl) (fun r3 _ h => ?_)
      refine r_iload_n C dX5_isSet_17 rfl ?_
      refine r_icmp_gt (tgt := 25) C dX5_isSet_18 (by decide) (fun c4 => ?_) (fun c4 => ?_)
      · have h := h.1 c4
        refine r_iconst (v := 0) C dX5_isSet_25 (by decide) ?_
        exact r_zret C hZ (u := ()) (by decide) h rfl dX5_isSet_26
      · have h := h.2 c4
        refine r_iconst (v := 1) C dX5_isSet_21 (by decide) ?_
        refine r_goto (tgt := 26) C dX5_isSet_22 (by decide) ?_
        exact r_zret C hZ (u := ()) (by decide) h rfl dX5_isSet_26
def rmX5_lay3 : Room := { frames := 3, cells := 0, slots := 0, locals := 77 }
theorem kwX5_lay3_0 : Cond.fieldLink RX5 65 "WantsBench" "lawCount" "I" ∈ wsX5_lay := by decide +kernel
theorem uwX5_lay3_5 : ∀ w ∈ wsX50, w ∈ wsX5_lay := by decide +kernel
theorem kwX5_lay3_2 : Cond.fieldLink RX5 18 "WantsBench" "laws" "[LWantsBench$Law;" ∈ wsX5_lay := by decide +kernel
theorem kwX5_lay3_3 : Cond.fieldLink RX5 85 "WantsBench$Law" "n" "I" ∈ wsX5_lay := by decide +kernel
theorem uwX5_lay3_1 : ∀ w ∈ wsX10, w ∈ wsX5_lay := by decide +kernel
def fX5_lay3_7b (N : Nat) (sb : RS) (lw : Nat → Option Nat) (sd : RS) (lp : List Nat) (pf : Nat → RS) (v2 : Int32) (v3 : Int32) (v4 : Int32) (R : Int32 → RS → Prop) (K : RS → Prop) (Q : RS → Prop) : Prop :=
  (((sb.1 2) ≤ v4 → K sd) ∧ (¬ (sb.1 2) ≤ v4 → (fX5_isIn N v2 v4 (fun r3 => ((r3 = 0 → (∀ x5 : Int32, x5 = v4 + 1 → R x5 sd)) ∧ (¬ r3 = 0 → (vp_in v4 20 ∧ (∃ q7 : Nat, lw v4.toNatClampNeg = some q7 ∧ (vp_in v4 20 ∧ (∃ q10 : Nat, lw v4.toNatClampNeg = some q10 ∧ (q10 ∈ lp ∧ (q7 ∈ lp ∧ (fX0_enter N sd (pf q7) ((pf q10).1 1) v3 (fun  sd14 => (∀ x15 : Int32, x15 = v4 + 1 → R x15 sd14)))))))))))))))
set_option maxRecDepth 100000 in
set_option maxHeartbeats 4000000 in
theorem wfX5_lay3_7b {x : Nx} {g : Gx} {W0 : va_W} {a : Nat → Nat → Nat} {sb : RS} {lw : Nat → Option Nat} {st : RS} {sp : RS} {sd : RS} {ss : RS} {sy : RS} {si : Nat → Option Nat} {lp : List Nat} {pf : Nat → RS} {N : Nat} {v2 : Int32} {v3 : Int32} {v4 : Int32} {R : Int32 → RS → Prop} {K : RS → Prop} {Q : RS → Prop} (C : Cx x g cX5_lay RX5 wsX5_lay rmX5_lay3 yX5_lay none 5) (hZ : Zq x g W0 (fun u : RS => sysW g a sb lw st sp u ss sy si lp pf) (qV (fun u : RS => Q u)) 0 0) (hR : ∀ (w4 : Int32) (sd_ : RS), R w4 sd_ → St x 0 0 (sysW g a sb lw st sp sd_ ss sy si lp pf) [(0, .ref ((a 0) 50)), (1, .ref ((a 3) 50)), (2, .int v2), (3, .int v3), (4, .int w4)] [] 7) (hK : ∀ (sd_ : RS), K sd_ → St x 0 0 (sysW g a sb lw st sp sd_ ss sy si lp pf) [] [] 53) (h : fX5_lay3_7b N sb lw sd lp pf v2 v3 v4 R K Q) : St x 0 0 (sysW g a sb lw st sp sd ss sy si lp pf) [(0, .ref ((a 0) 50)), (1, .ref ((a 3) 50)), (2, .int v2), (3, .int v3), (4, .int v4)] [] 7 := by
  unfold fX5_lay3_7b at h
  refine r_iload C dX5_lay_7 rfl ?_
  refine r_aload_n C dX5_lay_9 rfl ?_
  refine r_get (cn := RX5) (T := TX5) (N := 13) (ci := 5) C uwX5_lay3_5 0 rfl rfl 2 (by decide) kwX5_lay3_0 (v := .int (sb.1 2)) rfl dX5_lay_10 ?_
  refine r_icmp_ge (tgt := 53) C dX5_lay_13 (by decide) (fun c2 => ?_) (fun c2 => ?_)
  · have h := h.1 c2
    refine r_sub [] (lv' := []) rfl ?_
    exact hK sd h
  · have h := h.2 c2
    refine r_iload_n C dX5_lay_16 rfl ?_
    refine r_iload C dX5_lay_17 rfl ?_
    refine callR_I C (run_S (As := [.int v2, .int v4]) (rest := []) C hZ.2.2 (tX5_isIn _ g N v2 v4 _ h) gX5_lay_X5_isIn rfl dsX5_isIn rfl rfl ⟨(Nat.le_of_ble_eq_true rfl), (Nat.le_of_ble_eq_true rfl)⟩ rfl (Nat.le_of_ble_eq_true rfl) dX5_lay_19 ⟨Nat.zero_le _, Nat.zero_le _⟩) (List.nil_sublist _) (fun _ => rfl) (fun r3 _ h => ?_)
    refine r_if_eq (tgt := 47) C dX5_lay_22 (by decide) (fun c4 => ?_) (fun c4 => ?_)
    · have h := h.1 c4
      obtain ⟨x5, ex5⟩ : ∃ z : Int32, z = v4 + 1 := ⟨_, rfl⟩
      have h := h x5 ex5
      refine r_iinc (v := x5) (lv' := [(0, .ref ((a 0) 50)), (1, .ref ((a 3) 50)), (2, .int v2), (3, .int v3), (4, .int x5)]) C dX5_lay_47 rfl (by rw [ex5]; rfl) [some 0, some 1, some 2, some 3, none] (by decide) rfl rfl ?_
      refine r_goto (tgt := 7) C dX5_lay_50 (by decide) ?_
      exact hR x5 sd h
    · have h := h.2 c4
      refine r_aload_n C dX5_lay_25 rfl ?_
      refine r_aload_n C dX5_lay_26 rfl ?_
      refine r_get (cn := RX5) (T := TX5) (N := 13) (ci := 5) C uwX5_lay3_5 0 rfl rfl 1 (by decide) kwX5_lay3_2 (v := .ref ((a 0) 1)) rfl dX5_lay_27 ?_
      refine r_iload C dX5_lay_30 rfl ?_
      obtain ⟨hi6, h⟩ := h
      obtain ⟨q7, hq8, h⟩ := h
      refine r_aaldS C 1 rfl hi6 hq8 dX5_lay_32 ?_
      refine r_aload_n C dX5_lay_33 rfl ?_
      refine r_get (cn := RX5) (T := TX5) (N := 13) (ci := 5) C uwX5_lay3_5 0 rfl rfl 1 (by decide) kwX5_lay3_2 (v := .ref ((a 0) 1)) rfl dX5_lay_34 ?_
      refine r_iload C dX5_lay_37 rfl ?_
      obtain ⟨hi9, h⟩ := h
      obtain ⟨q10, hq11, h⟩ := h
      refine r_aaldS C 1 rfl hi9 hq11 dX5_lay_39 ?_
      obtain ⟨hq12, h⟩ := h
      refine r_getP (X := sysX g a sb lw st sp sd ss sy si) (lp := lp) (pf := pf) C uwX5_lay3_1 hq12 1 (by decide) kwX5_lay3_3 (v := .int ((pf q10).1 1)) ⟨rfl, rfl⟩ dX5_lay_40 ?_
      refine r_iload_n C dX5_lay_43 rfl ?_
      obtain ⟨hq13, h⟩ := h
      refine callP_V (ws' := fun z => sysW g a sb lw st sp z ss sy si lp pf) C (run_V (As := [.ref q7, .int ((pf q10).1 1), .int v3]) (rest := []) (ci := 0) C hZ.2.2 (tX0_enter _ g (a 3) q7 sd (pf q7) N ((pf q10).1 1) v3 _ h) gX5_lay_X0_enter rfl dsX0_enter rfl rfl ⟨(Nat.le_of_ble_eq_true rfl), (Nat.le_of_ble_eq_true rfl)⟩ rfl (List.mem_of_getElem? (i := 7) rfl) rfl (Nat.le_of_ble_eq_true rfl) dX5_lay_44 ⟨Nat.zero_le _, Nat.zero_le _⟩) (sp3q hq13) (fun _ => (sp3q hq13)) (fun sd14 h => ?_)
      show St x 0 0 (sysW g a sb lw st sp sd14 ss sy si lp pf) _ _ 47
      obtain ⟨x15, ex15⟩ : ∃ z : Int32, z = v4 + 1 := ⟨_, rfl⟩
      have h := h x15 ex15
      refine r_iinc (v := x15) (lv' := [(0, .ref ((a 0) 50)), (1, .ref ((a 3) 50)), (2, .int v2), (3, .int v3), (4, .int x15)]) C dX5_lay_47 rfl (by rw [ex15]; rfl) [some 0, some 1, some 2, some 3, none] (by decide) rfl rfl ?_
      refine r_goto (tgt := 7) C dX5_lay_50 (by decide) ?_
      exact hR x15 sd14 h
def fX5_lay3_7 (N : Nat) (sb : RS) (lw : Nat → Option Nat) (lp : List Nat) (pf : Nat → RS) (v2 : Int32) (v3 : Int32) (K : RS → Prop) (Q : RS → Prop) : Nat → Int32 → RS → Prop
  | 0, _, _ => False
  | n + 1, v4, sd => fX5_lay3_7b N sb lw sd lp pf v2 v3 v4 (fun v4 sd => fX5_lay3_7 N sb lw lp pf v2 v3 K Q n v4 sd) K Q
set_option maxRecDepth 100000 in
set_option maxHeartbeats 4000000 in
theorem wfX5_lay3_7 {x : Nx} {g : Gx} {W0 : va_W} {a : Nat → Nat → Nat} {sb : RS} {lw : Nat → Option Nat} {st : RS} {sp : RS} {ss : RS} {sy : RS} {si : Nat → Option Nat} {lp : List Nat} {pf : Nat → RS} {N : Nat} {v2 : Int32} {v3 : Int32} {K : RS → Prop} {Q : RS → Prop} (C : Cx x g cX5_lay RX5 wsX5_lay rmX5_lay3 yX5_lay none 5) (hZ : Zq x g W0 (fun u : RS => sysW g a sb lw st sp u ss sy si lp pf) (qV (fun u : RS => Q u)) 0 0) (hK : ∀ (sd_ : RS), K sd_ → St x 0 0 (sysW g a sb lw st sp sd_ ss sy si lp pf) [] [] 53) : ∀ (n : Nat) (v4 : Int32) (sd : RS), fX5_lay3_7 N sb lw lp pf v2 v3 K Q n v4 sd → St x 0 0 (sysW g a sb lw st sp sd ss sy si lp pf) [(0, .ref ((a 0) 50)), (1, .ref ((a 3) 50)), (2, .int v2), (3, .int v3), (4, .int v4)] [] 7 := by
  intro n
  induction n with
  | zero => intro v4 sd h; exact False.elim h
  | succ n ih => intro v4 sd h; exact wfX5_lay3_7b C hZ ih hK h
def fX5_lay3 (N : Nat) (sb : RS) (lw : Nat → Option Nat) (sd : RS) (lp : List Nat) (pf : Nat → RS) (v2 : Int32) (v3 : Int32) (Q : RS → Prop) : Prop :=
  (fX0_begin N sd (fun  sd1 => (fX5_lay3_7 N sb lw lp pf v2 v3 (fun sd16 => Q sd16) Q N 0 sd1)))
set_option maxRecDepth 100000 in
set_option maxHeartbeats 4000000 in
theorem tX5_lay3 (l : Launch) (g : Gx) (a : Nat → Nat → Nat) (sb : RS) (lw : Nat → Option Nat) (st : RS) (sp : RS) (sd : RS) (ss : RS) (sy : RS) (si : Nat → Option Nat) (lp : List Nat) (pf : Nat → RS) (N : Nat) (v2 : Int32) (v3 : Int32) (Q : RS → Prop) (h : fX5_lay3 N sb lw sd lp pf v2 v3 Q) : MetG l g yX5_lay wsX5_lay rmX5_lay3 [.ref ((a 0) 50), .ref ((a 3) 50), .int v2, .int v3] (sysW g a sb lw st sp sd ss sy si lp pf) (fun u : RS => sysW g a sb lw st sp u ss sy si lp pf) (qV (fun u : RS => Q u)) 0 0 := by
  refine met_of (cc := cX5_lay) (own := RX5) (nL := 5) (ret := none) (lv := [(0, .ref ((a 0) 50)), (1, .ref ((a 3) 50)), (2, .int v2), (3, .int v3)]) (by decide) rfl rfl (Nat.le_of_ble_eq_true rfl) rfl ?_
  intro x C hl hZ
  subst hl
  unfold fX5_lay3 at h
  refine r_aload_n C dX5_lay_0 rfl ?_
  refine callP_V (ws' := fun z => sysW g a sb lw st sp z ss sy si lp pf) C (run_V (As := []) (rest := []) (ci := 0) C hZ.2.2 (tX0_begin _ g (a 3) sd N _ h) gX5_lay_X0_begin rfl dsX0_begin rfl rfl ⟨(Nat.le_of_ble_eq_true rfl), (Nat.le_of_ble_eq_true rfl)⟩ rfl (List.mem_of_getElem? (i := 7) rfl) rfl (Nat.le_of_ble_eq_true rfl) dX5_lay_1 ⟨Nat.zero_le _, Nat.zero_le _⟩) sp3 (fun _ => sp3) (fun sd1 h => ?_)
  show St x 0 0 (sysW g a sb lw st sp sd1 ss sy si lp pf) _ _ 4
  refine r_iconst (v := 0) C dX5_lay_4 (by decide) ?_
  refine r_istore (lv' := [(0, .ref ((a 0) 50)), (1, .ref ((a 3) 50)), (2, .int v2), (3, .int v3), (4, .int 0)]) C dX5_lay_5 [some 0, some 1, some 2, some 3, none] (by decide) rfl rfl ?_
  refine wfX5_lay3_7 C hZ (fun sd16 h => ?_) N _ _ h
  exact r_vret C hZ (u := sd16) h rfl dX5_lay_53
def rmX5_lay4 : Room := { frames := 3, cells := 0, slots := 0, locals := 77 }
theorem kwX5_lay4_0 : Cond.fieldLink RX5 65 "WantsBench" "lawCount" "I" ∈ wsX5_lay := by decide +kernel
theorem uwX5_lay4_5 : ∀ w ∈ wsX50, w ∈ wsX5_lay := by decide +kernel
theorem kwX5_lay4_2 : Cond.fieldLink RX5 18 "WantsBench" "laws" "[LWantsBench$Law;" ∈ wsX5_lay := by decide +kernel
theorem kwX5_lay4_3 : Cond.fieldLink RX5 85 "WantsBench$Law" "n" "I" ∈ wsX5_lay := by decide +kernel
theorem uwX5_lay4_1 : ∀ w ∈ wsX10, w ∈ wsX5_lay := by decide +kernel
def fX5_lay4_7b (N : Nat) (sb : RS) (lw : Nat → Option Nat) (ss : RS) (lp : List Nat) (pf : Nat → RS) (v2 : Int32) (v3 : Int32) (v4 : Int32) (R : Int32 → RS → Prop) (K : RS → Prop) (Q : RS → Prop) : Prop :=
  (((sb.1 2) ≤ v4 → K ss) ∧ (¬ (sb.1 2) ≤ v4 → (fX5_isIn N v2 v4 (fun r3 => ((r3 = 0 → (∀ x5 : Int32, x5 = v4 + 1 → R x5 ss)) ∧ (¬ r3 = 0 → (vp_in v4 20 ∧ (∃ q7 : Nat, lw v4.toNatClampNeg = some q7 ∧ (vp_in v4 20 ∧ (∃ q10 : Nat, lw v4.toNatClampNeg = some q10 ∧ (q10 ∈ lp ∧ (q7 ∈ lp ∧ (fX0_enter N ss (pf q7) ((pf q10).1 1) v3 (fun  ss14 => (∀ x15 : Int32, x15 = v4 + 1 → R x15 ss14)))))))))))))))
set_option maxRecDepth 100000 in
set_option maxHeartbeats 4000000 in
theorem wfX5_lay4_7b {x : Nx} {g : Gx} {W0 : va_W} {a : Nat → Nat → Nat} {sb : RS} {lw : Nat → Option Nat} {st : RS} {sp : RS} {sd : RS} {ss : RS} {sy : RS} {si : Nat → Option Nat} {lp : List Nat} {pf : Nat → RS} {N : Nat} {v2 : Int32} {v3 : Int32} {v4 : Int32} {R : Int32 → RS → Prop} {K : RS → Prop} {Q : RS → Prop} (C : Cx x g cX5_lay RX5 wsX5_lay rmX5_lay4 yX5_lay none 5) (hZ : Zq x g W0 (fun u : RS => sysW g a sb lw st sp sd u sy si lp pf) (qV (fun u : RS => Q u)) 0 0) (hR : ∀ (w4 : Int32) (ss_ : RS), R w4 ss_ → St x 0 0 (sysW g a sb lw st sp sd ss_ sy si lp pf) [(0, .ref ((a 0) 50)), (1, .ref ((a 4) 50)), (2, .int v2), (3, .int v3), (4, .int w4)] [] 7) (hK : ∀ (ss_ : RS), K ss_ → St x 0 0 (sysW g a sb lw st sp sd ss_ sy si lp pf) [] [] 53) (h : fX5_lay4_7b N sb lw ss lp pf v2 v3 v4 R K Q) : St x 0 0 (sysW g a sb lw st sp sd ss sy si lp pf) [(0, .ref ((a 0) 50)), (1, .ref ((a 4) 50)), (2, .int v2), (3, .int v3), (4, .int v4)] [] 7 := by
  unfold fX5_lay4_7b at h
  refine r_iload C dX5_lay_7 rfl ?_
  refine r_aload_n C dX5_lay_9 rfl ?_
  refine r_get (cn := RX5) (T := TX5) (N := 13) (ci := 5) C uwX5_lay4_5 0 rfl rfl 2 (by decide) kwX5_lay4_0 (v := .int (sb.1 2)) rfl dX5_lay_10 ?_
  refine r_icmp_ge (tgt := 53) C dX5_lay_13 (by decide) (fun c2 => ?_) (fun c2 => ?_)
  · have h := h.1 c2
    refine r_sub [] (lv' := []) rfl ?_
    exact hK ss h
  · have h := h.2 c2
    refine r_iload_n C dX5_lay_16 rfl ?_
    refine r_iload C dX5_lay_17 rfl ?_
    refine callR_I C (run_S (As := [.int v2, .int v4]) (rest := []) C hZ.2.2 (tX5_isIn _ g N v2 v4 _ h) gX5_lay_X5_isIn rfl dsX5_isIn rfl rfl ⟨(Nat.le_of_ble_eq_true rfl), (Nat.le_of_ble_eq_true rfl)⟩ rfl (Nat.le_of_ble_eq_true rfl) dX5_lay_19 ⟨Nat.zero_le _, Nat.zero_le _⟩) (List.nil_sublist _) (fun _ => rfl) (fun r3 _ h => ?_)
    refine r_if_eq (tgt := 47) C dX5_lay_22 (by decide) (fun c4 => ?_) (fun c4 => ?_)
    · have h := h.1 c4
      obtain ⟨x5, ex5⟩ : ∃ z : Int32, z = v4 + 1 := ⟨_, rfl⟩
      have h := h x5 ex5
      refine r_iinc (v := x5) (lv' := [(0, .ref ((a 0) 50)), (1, .ref ((a 4) 50)), (2, .int v2), (3, .int v3), (4, .int x5)]) C dX5_lay_47 rfl (by rw [ex5]; rfl) [some 0, some 1, some 2, some 3, none] (by decide) rfl rfl ?_
      refine r_goto (tgt := 7) C dX5_lay_50 (by decide) ?_
      exact hR x5 ss h
    · have h := h.2 c4
      refine r_aload_n C dX5_lay_25 rfl ?_
      refine r_aload_n C dX5_lay_26 rfl ?_
      refine r_get (cn := RX5) (T := TX5) (N := 13) (ci := 5) C uwX5_lay4_5 0 rfl rfl 1 (by decide) kwX5_lay4_2 (v := .ref ((a 0) 1)) rfl dX5_lay_27 ?_
      refine r_iload C dX5_lay_30 rfl ?_
      obtain ⟨hi6, h⟩ := h
      obtain ⟨q7, hq8, h⟩ := h
      refine r_aaldS C 1 rfl hi6 hq8 dX5_lay_32 ?_
      refine r_aload_n C dX5_lay_33 rfl ?_
      refine r_get (cn := RX5) (T := TX5) (N := 13) (ci := 5) C uwX5_lay4_5 0 rfl rfl 1 (by decide) kwX5_lay4_2 (v := .ref ((a 0) 1)) rfl dX5_lay_34 ?_
      refine r_iload C dX5_lay_37 rfl ?_
      obtain ⟨hi9, h⟩ := h
      obtain ⟨q10, hq11, h⟩ := h
      refine r_aaldS C 1 rfl hi9 hq11 dX5_lay_39 ?_
      obtain ⟨hq12, h⟩ := h
      refine r_getP (X := sysX g a sb lw st sp sd ss sy si) (lp := lp) (pf := pf) C uwX5_lay4_1 hq12 1 (by decide) kwX5_lay4_3 (v := .int ((pf q10).1 1)) ⟨rfl, rfl⟩ dX5_lay_40 ?_
      refine r_iload_n C dX5_lay_43 rfl ?_
      obtain ⟨hq13, h⟩ := h
      refine callP_V (ws' := fun z => sysW g a sb lw st sp sd z sy si lp pf) C (run_V (As := [.ref q7, .int ((pf q10).1 1), .int v3]) (rest := []) (ci := 0) C hZ.2.2 (tX0_enter _ g (a 4) q7 ss (pf q7) N ((pf q10).1 1) v3 _ h) gX5_lay_X0_enter rfl dsX0_enter rfl rfl ⟨(Nat.le_of_ble_eq_true rfl), (Nat.le_of_ble_eq_true rfl)⟩ rfl (List.mem_of_getElem? (i := 16) rfl) rfl (Nat.le_of_ble_eq_true rfl) dX5_lay_44 ⟨Nat.zero_le _, Nat.zero_le _⟩) (sp4q hq13) (fun _ => (sp4q hq13)) (fun ss14 h => ?_)
      show St x 0 0 (sysW g a sb lw st sp sd ss14 sy si lp pf) _ _ 47
      obtain ⟨x15, ex15⟩ : ∃ z : Int32, z = v4 + 1 := ⟨_, rfl⟩
      have h := h x15 ex15
      refine r_iinc (v := x15) (lv' := [(0, .ref ((a 0) 50)), (1, .ref ((a 4) 50)), (2, .int v2), (3, .int v3), (4, .int x15)]) C dX5_lay_47 rfl (by rw [ex15]; rfl) [some 0, some 1, some 2, some 3, none] (by decide) rfl rfl ?_
      refine r_goto (tgt := 7) C dX5_lay_50 (by decide) ?_
      exact hR x15 ss14 h
def fX5_lay4_7 (N : Nat) (sb : RS) (lw : Nat → Option Nat) (lp : List Nat) (pf : Nat → RS) (v2 : Int32) (v3 : Int32) (K : RS → Prop) (Q : RS → Prop) : Nat → Int32 → RS → Prop
  | 0, _, _ => False
  | n + 1, v4, ss => fX5_lay4_7b N sb lw ss lp pf v2 v3 v4 (fun v4 ss => fX5_lay4_7 N sb lw lp pf v2 v3 K Q n v4 ss) K Q
set_option maxRecDepth 100000 in
set_option maxHeartbeats 4000000 in
theorem wfX5_lay4_7 {x : Nx} {g : Gx} {W0 : va_W} {a : Nat → Nat → Nat} {sb : RS} {lw : Nat → Option Nat} {st : RS} {sp : RS} {sd : RS} {sy : RS} {si : Nat → Option Nat} {lp : List Nat} {pf : Nat → RS} {N : Nat} {v2 : Int32} {v3 : Int32} {K : RS → Prop} {Q : RS → Prop} (C : Cx x g cX5_lay RX5 wsX5_lay rmX5_lay4 yX5_lay none 5) (hZ : Zq x g W0 (fun u : RS => sysW g a sb lw st sp sd u sy si lp pf) (qV (fun u : RS => Q u)) 0 0) (hK : ∀ (ss_ : RS), K ss_ → St x 0 0 (sysW g a sb lw st sp sd ss_ sy si lp pf) [] [] 53) : ∀ (n : Nat) (v4 : Int32) (ss : RS), fX5_lay4_7 N sb lw lp pf v2 v3 K Q n v4 ss → St x 0 0 (sysW g a sb lw st sp sd ss sy si lp pf) [(0, .ref ((a 0) 50)), (1, .ref ((a 4) 50)), (2, .int v2), (3, .int v3), (4, .int v4)] [] 7 := by
  intro n
  induction n with
  | zero => intro v4 ss h; exact False.elim h
  | succ n ih => intro v4 ss h; exact wfX5_lay4_7b C hZ ih hK h
def fX5_lay4 (N : Nat) (sb : RS) (lw : Nat → Option Nat) (ss : RS) (lp : List Nat) (pf : Nat → RS) (v2 : Int32) (v3 : Int32) (Q : RS → Prop) : Prop :=
  (fX0_begin N ss (fun  ss1 => (fX5_lay4_7 N sb lw lp pf v2 v3 (fun ss16 => Q ss16) Q N 0 ss1)))
set_option maxRecDepth 100000 in
set_option maxHeartbeats 4000000 in
theorem tX5_lay4 (l : Launch) (g : Gx) (a : Nat → Nat → Nat) (sb : RS) (lw : Nat → Option Nat) (st : RS) (sp : RS) (sd : RS) (ss : RS) (sy : RS) (si : Nat → Option Nat) (lp : List Nat) (pf : Nat → RS) (N : Nat) (v2 : Int32) (v3 : Int32) (Q : RS → Prop) (h : fX5_lay4 N sb lw ss lp pf v2 v3 Q) : MetG l g yX5_lay wsX5_lay rmX5_lay4 [.ref ((a 0) 50), .ref ((a 4) 50), .int v2, .int v3] (sysW g a sb lw st sp sd ss sy si lp pf) (fun u : RS => sysW g a sb lw st sp sd u sy si lp pf) (qV (fun u : RS => Q u)) 0 0 := by
  refine met_of (cc := cX5_lay) (own := RX5) (nL := 5) (ret := none) (lv := [(0, .ref ((a 0) 50)), (1, .ref ((a 4) 50)), (2, .int v2), (3, .int v3)]) (by decide) rfl rfl (Nat.le_of_ble_eq_true rfl) rfl ?_
  intro x C hl hZ
  subst hl
  unfold fX5_lay4 at h
  refine r_aload_n C dX5_lay_0 rfl ?_
  refine callP_V (ws' := fun z => sysW g a sb lw st sp sd z sy si lp pf) C (run_V (As := []) (rest := []) (ci := 0) C hZ.2.2 (tX0_begin _ g (a 4) ss N _ h) gX5_lay_X0_begin rfl dsX0_begin rfl rfl ⟨(Nat.le_of_ble_eq_true rfl), (Nat.le_of_ble_eq_true rfl)⟩ rfl (List.mem_of_getElem? (i := 16) rfl) rfl (Nat.le_of_ble_eq_true rfl) dX5_lay_1 ⟨Nat.zero_le _, Nat.zero_le _⟩) sp4 (fun _ => sp4) (fun ss1 h => ?_)
  show St x 0 0 (sysW g a sb lw st sp sd ss1 sy si lp pf) _ _ 4
  refine r_iconst (v := 0) C dX5_lay_4 (by decide) ?_
  refine r_istore (lv' := [(0, .ref ((a 0) 50)), (1, .ref ((a 4) 50)), (2, .int v2), (3, .int v3), (4, .int 0)]) C dX5_lay_5 [some 0, some 1, some 2, some 3, none] (by decide) rfl rfl ?_
  refine wfX5_lay4_7 C hZ (fun ss16 h => ?_) N _ _ h
  exact r_vret C hZ (u := ss16) h rfl dX5_lay_53
def rmX5_isObeyable : Room := { frames := 4, cells := 0, slots := 0, locals := 108 }
theorem kwX5_isObeyable_0 : Cond.fieldLink RX5 36 "WantsBench" "desk" "LWantsBench$Game;" ∈ wsX5_isObeyable := by decide +kernel
theorem uwX5_isObeyable_5 : ∀ w ∈ wsX50, w ∈ wsX5_isObeyable := by decide +kernel
def fX5_isObeyable (N : Nat) (sb : RS) (lw : Nat → Option Nat) (sd : RS) (lp : List Nat) (pf : Nat → RS) (v1 : Int32) (Q : Int32 → RS → Prop) : Prop :=
  (fX5_lay3 N sb lw sd lp pf v1 0 (fun  sd1 => (fX0_solve N sd1 0 (fun  sd2 => (fX0_lostIn N sd2 0 (fun r3 => ((¬ r3 = 0 → Q 0 sd2) ∧ (r3 = 0 → Q 1 sd2))))))))
set_option maxRecDepth 100000 in
set_option maxHeartbeats 4000000 in
theorem tX5_isObeyable (l : Launch) (g : Gx) (a : Nat → Nat → Nat) (sb : RS) (lw : Nat → Option Nat) (st : RS) (sp : RS) (sd : RS) (ss : RS) (sy : RS) (si : Nat → Option Nat) (lp : List Nat) (pf : Nat → RS) (N : Nat) (v1 : Int32) (Q : Int32 → RS → Prop) (h : fX5_isObeyable N sb lw sd lp pf v1 Q) : MetG l g yX5_isObeyable wsX5_isObeyable rmX5_isObeyable [.ref ((a 0) 50), .int v1] (sysW g a sb lw st sp sd ss sy si lp pf) (fun u : RS => sysW g a sb lw st sp u ss sy si lp pf) (qI (fun (r : Int32) (u : RS) => Q r u)) 0 0 := by
  refine met_of (cc := cX5_isObeyable) (own := RX5) (nL := 2) (ret := (some .boolean)) (lv := [(0, .ref ((a 0) 50)), (1, .int v1)]) (by decide) rfl rfl (Nat.le_of_ble_eq_true rfl) rfl ?_
  intro x C hl hZ
  subst hl
  unfold fX5_isObeyable at h
  refine r_aload_n C dX5_isObeyable_0 rfl ?_
  refine r_aload_n C dX5_isObeyable_1 rfl ?_
  refine r_get (cn := RX5) (T := TX5) (N := 13) (ci := 5) C uwX5_isObeyable_5 0 rfl rfl 7 (by decide) kwX5_isObeyable_0 (v := .ref ((a 3) 50)) rfl dX5_isObeyable_2 ?_
  refine r_iload_n C dX5_isObeyable_5 rfl ?_
  refine r_iconst (v := 0) C dX5_isObeyable_6 (by decide) ?_
  refine callW_V C (run_V (As := [.ref ((a 3) 50), .int v1, .int 0]) (rest := []) (ci := 5) C hZ.2.2 (tX5_lay3 _ g a sb lw st sp sd ss sy si lp pf N v1 0 _ h) gX5_isObeyable_X5_lay rfl dsX5_lay rfl rfl ⟨(Nat.le_of_ble_eq_true rfl), (Nat.le_of_ble_eq_true rfl)⟩ rfl (List.mem_of_getElem? (i := 0) rfl) rfl (Nat.le_of_ble_eq_true rfl) dX5_isObeyable_7 ⟨Nat.zero_le _, Nat.zero_le _⟩) (fun sd1 h => ?_)
  show St x 0 0 (sysW g a sb lw st sp sd1 ss sy si lp pf) _ _ 10
  refine r_aload_n C dX5_isObeyable_10 rfl ?_
  refine r_get (cn := RX5) (T := TX5) (N := 13) (ci := 5) C uwX5_isObeyable_5 0 rfl rfl 7 (by decide) kwX5_isObeyable_0 (v := .ref ((a 3) 50)) rfl dX5_isObeyable_11 ?_
  refine r_iconst (v := 0) C dX5_isObeyable_14 (by decide) ?_
  refine callP_V (ws' := fun z => sysW g a sb lw st sp z ss sy si lp pf) C (run_V (As := [.int 0]) (rest := []) (ci := 0) C hZ.2.2 (tX0_solve _ g (a 3) sd1 N 0 _ h) gX5_isObeyable_X0_solve rfl dsX0_solve rfl rfl ⟨(Nat.le_of_ble_eq_true rfl), (Nat.le_of_ble_eq_true rfl)⟩ rfl (List.mem_of_getElem? (i := 7) rfl) rfl (Nat.le_of_ble_eq_true rfl) dX5_isObeyable_15 ⟨Nat.zero_le _, Nat.zero_le _⟩) sp3 (fun _ => sp3) (fun sd2 h => ?_)
  show St x 0 0 (sysW g a sb lw st sp sd2 ss sy si lp pf) _ _ 18
  refine r_aload_n C dX5_isObeyable_18 rfl ?_
  refine r_get (cn := RX5) (T := TX5) (N := 13) (ci := 5) C uwX5_isObeyable_5 0 rfl rfl 7 (by decide) kwX5_isObeyable_0 (v := .ref ((a 3) 50)) rfl dX5_isObeyable_19 ?_
  refine r_iconst (v := 0) C dX5_isObeyable_22 (by decide) ?_
  refine callR_I C (run_V (As := [.int 0]) (rest := []) (ci := 0) C hZ.2.2 (tX0_lostIn _ g (a 3) sd2 N 0 _ h) gX5_isObeyable_X0_lostIn rfl dsX0_lostIn rfl rfl ⟨(Nat.le_of_ble_eq_true rfl), (Nat.le_of_ble_eq_true rfl)⟩ rfl (List.mem_of_getElem? (i := 7) rfl) rfl (Nat.le_of_ble_eq_true rfl) dX5_isObeyable_23 ⟨Nat.zero_le _, Nat.zero_le _⟩) sl_d (fun _ => rfl) (fun r3 _ h => ?_)
  refine r_if_ne (tgt := 33) C dX5_isObeyable_26 (by decide) (fun c4 => ?_) (fun c4 => ?_)
  · have h := h.1 c4
    refine r_iconst (v := 0) C dX5_isObeyable_33 (by decide) ?_
    exact r_zret C hZ (u := sd2) (by decide) h rfl dX5_isObeyable_34
  · have h := h.2 c4
    refine r_iconst (v := 1) C dX5_isObeyable_29 (by decide) ?_
    refine r_goto (tgt := 34) C dX5_isObeyable_30 (by decide) ?_
    exact r_zret C hZ (u := sd2) (by decide) h rfl dX5_isObeyable_34
def rmX5_can : Room := { frames := 5, cells := 0, slots := 0, locals := 129 }
def fX5_can (N : Nat) (sb : RS) (lw : Nat → Option Nat) (sd : RS) (lp : List Nat) (pf : Nat → RS) (v1 : Int32) (Q : Int32 → RS → Prop) : Prop :=
  (fX5_isSet N sb v1 5 (fun r1 => ((¬ r1 = 0 → (fX5_isObeyable N sb lw sd lp pf v1 (fun r3 sd4 => (fX5_bit N r3 (fun r5 => Q r5 sd4))))) ∧ (r1 = 0 → Q (-1) sd))))
set_option maxRecDepth 100000 in
set_option maxHeartbeats 4000000 in
theorem tX5_can (l : Launch) (g : Gx) (a : Nat → Nat → Nat) (sb : RS) (lw : Nat → Option Nat) (st : RS) (sp : RS) (sd : RS) (ss : RS) (sy : RS) (si : Nat → Option Nat) (lp : List Nat) (pf : Nat → RS) (N : Nat) (v1 : Int32) (Q : Int32 → RS → Prop) (h : fX5_can N sb lw sd lp pf v1 Q) : MetG l g yX5_can wsX5_can rmX5_can [.ref ((a 0) 50), .int v1] (sysW g a sb lw st sp sd ss sy si lp pf) (fun u : RS => sysW g a sb lw st sp u ss sy si lp pf) (qI (fun (r : Int32) (u : RS) => Q r u)) 0 0 := by
  refine met_of (cc := cX5_can) (own := RX5) (nL := 2) (ret := (some .int)) (lv := [(0, .ref ((a 0) 50)), (1, .int v1)]) (by decide) rfl rfl (Nat.le_of_ble_eq_true rfl) rfl ?_
  intro x C hl hZ
  subst hl
  unfold fX5_can at h
  refine r_aload_n C dX5_can_0 rfl ?_
  refine r_iload_n C dX5_can_1 rfl ?_
  refine r_iconst (v := 5) C dX5_can_2 (by decide) ?_
  refine callR_I C (run_V (As := [.int v1, .int 5]) (rest := []) (ci := 5) C hZ.2.2 (tX5_isSet _ g a sb lw st sp sd ss sy si lp pf N v1 5 _ h) gX5_can_X5_isSet rfl dsX5_isSet rfl rfl ⟨(Nat.le_of_ble_eq_true rfl), (Nat.le_of_ble_eq_true rfl)⟩ rfl (List.mem_of_getElem? (i := 0) rfl) rfl (Nat.le_of_ble_eq_true rfl) dX5_can_3 ⟨Nat.zero_le _, Nat.zero_le _⟩) (List.Sublist.refl _) (fun _ => rfl) (fun r1 _ h => ?_)
  refine r_if_ne (tgt := 11) C dX5_can_6 (by decide) (fun c2 => ?_) (fun c2 => ?_)
  · have h := h.1 c2
    refine r_aload_n C dX5_can_11 rfl ?_
    refine r_iload_n C dX5_can_12 rfl ?_
    refine callW_I C (run_V (As := [.int v1]) (rest := []) (ci := 5) C hZ.2.2 (tX5_isObeyable _ g a sb lw st sp sd ss sy si lp pf N v1 _ h) gX5_can_X5_isObeyable rfl dsX5_isObeyable rfl rfl ⟨(Nat.le_of_ble_eq_true rfl), (Nat.le_of_ble_eq_true rfl)⟩ rfl (List.mem_of_getElem? (i := 0) rfl) rfl (Nat.le_of_ble_eq_true rfl) dX5_can_13 ⟨Nat.zero_le _, Nat.zero_le _⟩) (fun r3 sd4 h => ?_)
    show St x 0 0 (sysW g a sb lw st sp sd4 ss sy si lp pf) _ _ 16
    refine callR_I C (run_S (As := [.int r3]) (rest := []) C hZ.2.2 (tX5_bit _ g N r3 _ h) gX5_can_X5_bit rfl dsX5_bit rfl rfl ⟨(Nat.le_of_ble_eq_true rfl), (Nat.le_of_ble_eq_true rfl)⟩ rfl (Nat.le_of_ble_eq_true rfl) dX5_can_16 ⟨Nat.zero_le _, Nat.zero_le _⟩) (List.nil_sublist _) (fun _ => rfl) (fun r5 _ h => ?_)
    exact r_iret C hZ (u := sd4) h rfl dX5_can_19
  · have h := h.2 c2
    refine r_iconst (v := (-1)) C dX5_can_9 (by decide) ?_
    exact r_iret C hZ (u := sd) h rfl dX5_can_10
def rmX5_placesOfNevers : Room := { frames := 1, cells := 0, slots := 0, locals := 21 }
theorem kwX5_placesOfNevers_0 : Cond.fieldLink RX5 65 "WantsBench" "lawCount" "I" ∈ wsX5_placesOfNevers := by decide +kernel
theorem uwX5_placesOfNevers_5 : ∀ w ∈ wsX50, w ∈ wsX5_placesOfNevers := by decide +kernel
theorem kwX5_placesOfNevers_2 : Cond.fieldLink RX5 18 "WantsBench" "laws" "[LWantsBench$Law;" ∈ wsX5_placesOfNevers := by decide +kernel
theorem kwX5_placesOfNevers_3 : Cond.fieldLink RX5 82 "WantsBench$Law" "sort" "I" ∈ wsX5_placesOfNevers := by decide +kernel
theorem uwX5_placesOfNevers_1 : ∀ w ∈ wsX10, w ∈ wsX5_placesOfNevers := by decide +kernel
def fX5_placesOfNevers_4b (N : Nat) (sb : RS) (lw : Nat → Option Nat) (lp : List Nat) (pf : Nat → RS) (v1 : Int32) (v2 : Int32) (v3 : Int32) (R : Int32 → Int32 → Prop) (K : Int32 → Prop) (Q : Int32 → Prop) : Prop :=
  (((sb.1 2) ≤ v3 → K v2) ∧ (¬ (sb.1 2) ≤ v3 → (fX5_isIn N v1 v3 (fun r2 => ((r2 = 0 → (∀ x4 : Int32, x4 = v3 + 1 → R v2 x4)) ∧ (¬ r2 = 0 → (vp_in v3 20 ∧ (∃ q6 : Nat, lw v3.toNatClampNeg = some q6 ∧ (q6 ∈ lp ∧ ((¬ ((pf q6).1 0) = 0 → (∀ x10 : Int32, x10 = v3 + 1 → R v2 x10)) ∧ (((pf q6).1 0) = 0 → (∀ x11 : Int32, x11 = v2 * (4 : Int32) → (∀ x12 : Int32, x12 = v3 + 1 → R x11 x12)))))))))))))
set_option maxRecDepth 100000 in
set_option maxHeartbeats 4000000 in
theorem wfX5_placesOfNevers_4b {x : Nx} {g : Gx} {W0 : va_W} {a : Nat → Nat → Nat} {sb : RS} {lw : Nat → Option Nat} {st : RS} {sp : RS} {sd : RS} {ss : RS} {sy : RS} {si : Nat → Option Nat} {lp : List Nat} {pf : Nat → RS} {N : Nat} {v1 : Int32} {v2 : Int32} {v3 : Int32} {R : Int32 → Int32 → Prop} {K : Int32 → Prop} {Q : Int32 → Prop} (C : Cx x g cX5_placesOfNevers RX5 wsX5_placesOfNevers rmX5_placesOfNevers yX5_placesOfNevers (some .int) 4) (hZ : Zq x g W0 (fun _ : Unit => sysW g a sb lw st sp sd ss sy si lp pf) (qI (fun (r : Int32) (_ : Unit) => Q r)) 0 0) (hR : ∀ (w2 : Int32) (w3 : Int32), R w2 w3 → St x 0 0 (sysW g a sb lw st sp sd ss sy si lp pf) [(0, .ref ((a 0) 50)), (1, .int v1), (2, .int w2), (3, .int w3)] [] 4) (hK : ∀ (w2 : Int32), K w2 → St x 0 0 (sysW g a sb lw st sp sd ss sy si lp pf) [(2, .int w2)] [] 42) (h : fX5_placesOfNevers_4b N sb lw lp pf v1 v2 v3 R K Q) : St x 0 0 (sysW g a sb lw st sp sd ss sy si lp pf) [(0, .ref ((a 0) 50)), (1, .int v1), (2, .int v2), (3, .int v3)] [] 4 := by
  unfold fX5_placesOfNevers_4b at h
  refine r_iload_n C dX5_placesOfNevers_4 rfl ?_
  refine r_aload_n C dX5_placesOfNevers_5 rfl ?_
  refine r_get (cn := RX5) (T := TX5) (N := 13) (ci := 5) C uwX5_placesOfNevers_5 0 rfl rfl 2 (by decide) kwX5_placesOfNevers_0 (v := .int (sb.1 2)) rfl dX5_placesOfNevers_6 ?_
  refine r_icmp_ge (tgt := 42) C dX5_placesOfNevers_9 (by decide) (fun c1 => ?_) (fun c1 => ?_)
  · have h := h.1 c1
    refine r_sub [2] (lv' := [(2, .int v2)]) rfl ?_
    exact hK v2 h
  · have h := h.2 c1
    refine r_iload_n C dX5_placesOfNevers_12 rfl ?_
    refine r_iload_n C dX5_placesOfNevers_13 rfl ?_
    refine callR_I C (run_S (As := [.int v1, .int v3]) (rest := []) C hZ.2.2 (tX5_isIn _ g N v1 v3 _ h) gX5_placesOfNevers_X5_isIn rfl dsX5_isIn rfl rfl ⟨(Nat.le_of_ble_eq_true rfl), (Nat.le_of_ble_eq_true rfl)⟩ rfl (Nat.le_of_ble_eq_true rfl) dX5_placesOfNevers_14 ⟨Nat.zero_le _, Nat.zero_le _⟩) (List.nil_sublist _) (fun _ => rfl) (fun r2 _ h => ?_)
    refine r_if_eq (tgt := 36) C dX5_placesOfNevers_17 (by decide) (fun c3 => ?_) (fun c3 => ?_)
    · have h := h.1 c3
      obtain ⟨x4, ex4⟩ : ∃ z : Int32, z = v3 + 1 := ⟨_, rfl⟩
      have h := h x4 ex4
      refine r_iinc (v := x4) (lv' := [(0, .ref ((a 0) 50)), (1, .int v1), (2, .int v2), (3, .int x4)]) C dX5_placesOfNevers_36 rfl (by rw [ex4]; rfl) [some 0, some 1, some 2, none] (by decide) rfl rfl ?_
      refine r_goto (tgt := 4) C dX5_placesOfNevers_39 (by decide) ?_
      exact hR v2 x4 h
    · have h := h.2 c3
      refine r_aload_n C dX5_placesOfNevers_20 rfl ?_
      refine r_get (cn := RX5) (T := TX5) (N := 13) (ci := 5) C uwX5_placesOfNevers_5 0 rfl rfl 1 (by decide) kwX5_placesOfNevers_2 (v := .ref ((a 0) 1)) rfl dX5_placesOfNevers_21 ?_
      refine r_iload_n C dX5_placesOfNevers_24 rfl ?_
      obtain ⟨hi5, h⟩ := h
      obtain ⟨q6, hq7, h⟩ := h
      refine r_aaldS C 1 rfl hi5 hq7 dX5_placesOfNevers_25 ?_
      obtain ⟨hq8, h⟩ := h
      refine r_getP (X := sysX g a sb lw st sp sd ss sy si) (lp := lp) (pf := pf) C uwX5_placesOfNevers_1 hq8 0 (by decide) kwX5_placesOfNevers_3 (v := .int ((pf q6).1 0)) ⟨rfl, rfl⟩ dX5_placesOfNevers_26 ?_
      refine r_if_ne (tgt := 36) C dX5_placesOfNevers_29 (by decide) (fun c9 => ?_) (fun c9 => ?_)
      · have h := h.1 c9
        obtain ⟨x10, ex10⟩ : ∃ z : Int32, z = v3 + 1 := ⟨_, rfl⟩
        have h := h x10 ex10
        refine r_iinc (v := x10) (lv' := [(0, .ref ((a 0) 50)), (1, .int v1), (2, .int v2), (3, .int x10)]) C dX5_placesOfNevers_36 rfl (by rw [ex10]; rfl) [some 0, some 1, some 2, none] (by decide) rfl rfl ?_
        refine r_goto (tgt := 4) C dX5_placesOfNevers_39 (by decide) ?_
        exact hR v2 x10 h
      · have h := h.2 c9
        refine r_iload_n C dX5_placesOfNevers_32 rfl ?_
        refine r_iconst (v := 4) C dX5_placesOfNevers_33 (by decide) ?_
        refine r_imul C dX5_placesOfNevers_34 ?_
        refine r_topi (fun x11 ex11 => ?_)
        have h := h x11 ex11
        refine r_istore_n (lv' := [(0, .ref ((a 0) 50)), (1, .int v1), (2, .int x11), (3, .int v3)]) C dX5_placesOfNevers_35 [some 0, some 1, none, some 3] (by decide) rfl rfl ?_
        obtain ⟨x12, ex12⟩ : ∃ z : Int32, z = v3 + 1 := ⟨_, rfl⟩
        have h := h x12 ex12
        refine r_iinc (v := x12) (lv' := [(0, .ref ((a 0) 50)), (1, .int v1), (2, .int x11), (3, .int x12)]) C dX5_placesOfNevers_36 rfl (by rw [ex12]; rfl) [some 0, some 1, some 2, none] (by decide) rfl rfl ?_
        refine r_goto (tgt := 4) C dX5_placesOfNevers_39 (by decide) ?_
        exact hR x11 x12 h
def fX5_placesOfNevers_4 (N : Nat) (sb : RS) (lw : Nat → Option Nat) (lp : List Nat) (pf : Nat → RS) (v1 : Int32) (K : Int32 → Prop) (Q : Int32 → Prop) : Nat → Int32 → Int32 → Prop
  | 0, _, _ => False
  | n + 1, v2, v3 => fX5_placesOfNevers_4b N sb lw lp pf v1 v2 v3 (fun v2 v3 => fX5_placesOfNevers_4 N sb lw lp pf v1 K Q n v2 v3) K Q
set_option maxRecDepth 100000 in
set_option maxHeartbeats 4000000 in
theorem wfX5_placesOfNevers_4 {x : Nx} {g : Gx} {W0 : va_W} {a : Nat → Nat → Nat} {sb : RS} {lw : Nat → Option Nat} {st : RS} {sp : RS} {sd : RS} {ss : RS} {sy : RS} {si : Nat → Option Nat} {lp : List Nat} {pf : Nat → RS} {N : Nat} {v1 : Int32} {K : Int32 → Prop} {Q : Int32 → Prop} (C : Cx x g cX5_placesOfNevers RX5 wsX5_placesOfNevers rmX5_placesOfNevers yX5_placesOfNevers (some .int) 4) (hZ : Zq x g W0 (fun _ : Unit => sysW g a sb lw st sp sd ss sy si lp pf) (qI (fun (r : Int32) (_ : Unit) => Q r)) 0 0) (hK : ∀ (w2 : Int32), K w2 → St x 0 0 (sysW g a sb lw st sp sd ss sy si lp pf) [(2, .int w2)] [] 42) : ∀ (n : Nat) (v2 : Int32) (v3 : Int32), fX5_placesOfNevers_4 N sb lw lp pf v1 K Q n v2 v3 → St x 0 0 (sysW g a sb lw st sp sd ss sy si lp pf) [(0, .ref ((a 0) 50)), (1, .int v1), (2, .int v2), (3, .int v3)] [] 4 := by
  intro n
  induction n with
  | zero => intro v2 v3 h; exact False.elim h
  | succ n ih => intro v2 v3 h; exact wfX5_placesOfNevers_4b C hZ ih hK h
def fX5_placesOfNevers (N : Nat) (sb : RS) (lw : Nat → Option Nat) (lp : List Nat) (pf : Nat → RS) (v1 : Int32) (Q : Int32 → Prop) : Prop :=
  (fX5_placesOfNevers_4 N sb lw lp pf v1 (fun x13 => Q x13) Q N 1 0)
set_option maxRecDepth 100000 in
set_option maxHeartbeats 4000000 in
theorem tX5_placesOfNevers (l : Launch) (g : Gx) (a : Nat → Nat → Nat) (sb : RS) (lw : Nat → Option Nat) (st : RS) (sp : RS) (sd : RS) (ss : RS) (sy : RS) (si : Nat → Option Nat) (lp : List Nat) (pf : Nat → RS) (N : Nat) (v1 : Int32) (Q : Int32 → Prop) (h : fX5_placesOfNevers N sb lw lp pf v1 Q) : MetG l g yX5_placesOfNevers wsX5_placesOfNevers rmX5_placesOfNevers [.ref ((a 0) 50), .int v1] (sysW g a sb lw st sp sd ss sy si lp pf) (fun _ : Unit => sysW g a sb lw st sp sd ss sy si lp pf) (qI (fun (r : Int32) (_ : Unit) => Q r)) 0 0 := by
  refine met_of (cc := cX5_placesOfNevers) (own := RX5) (nL := 4) (ret := (some .int)) (lv := [(0, .ref ((a 0) 50)), (1, .int v1)]) (by decide) rfl rfl (Nat.le_of_ble_eq_true rfl) rfl ?_
  intro x C hl hZ
  subst hl
  unfold fX5_placesOfNevers at h
  refine r_iconst (v := 1) C dX5_placesOfNevers_0 (by decide) ?_
  refine r_istore_n (lv' := [(0, .ref ((a 0) 50)), (1, .int v1), (2, .int 1)]) C dX5_placesOfNevers_1 [some 0, some 1, none] (by decide) rfl rfl ?_
  refine r_iconst (v := 0) C dX5_placesOfNevers_2 (by decide) ?_
  refine r_istore_n (lv' := [(0, .ref ((a 0) 50)), (1, .int v1), (2, .int 1), (3, .int 0)]) C dX5_placesOfNevers_3 [some 0, some 1, some 2, none] (by decide) rfl rfl ?_
  refine wfX5_placesOfNevers_4 C hZ (fun x13 h => ?_) N _ _ h
  refine r_iload_n C dX5_placesOfNevers_42 rfl ?_
  exact r_iret C hZ (u := ()) h rfl dX5_placesOfNevers_43
def rmX5_safe : Room := { frames := 4, cells := 0, slots := 0, locals := 108 }
theorem kwX5_safe_0 : Cond.fieldLink RX5 36 "WantsBench" "desk" "LWantsBench$Game;" ∈ wsX5_safe := by decide +kernel
theorem uwX5_safe_5 : ∀ w ∈ wsX50, w ∈ wsX5_safe := by decide +kernel
def fX5_safe (N : Nat) (sb : RS) (lw : Nat → Option Nat) (sd : RS) (lp : List Nat) (pf : Nat → RS) (v1 : Int32) (Q : Int32 → RS → Prop) : Prop :=
  (fX5_isSet N sb v1 5 (fun r1 => ((¬ r1 = 0 → (fX5_lay3 N sb lw sd lp pf v1 1 (fun  sd3 => (fX0_solve N sd3 1 (fun  sd4 => (fX0_safePlaces N sd4 (fun r5 => (fX5_placesOfNevers N sb lw lp pf v1 (fun r6 => Q (r5 * r6) sd4))))))))) ∧ (r1 = 0 → Q (-1) sd))))
set_option maxRecDepth 100000 in
set_option maxHeartbeats 4000000 in
theorem tX5_safe (l : Launch) (g : Gx) (a : Nat → Nat → Nat) (sb : RS) (lw : Nat → Option Nat) (st : RS) (sp : RS) (sd : RS) (ss : RS) (sy : RS) (si : Nat → Option Nat) (lp : List Nat) (pf : Nat → RS) (N : Nat) (v1 : Int32) (Q : Int32 → RS → Prop) (h : fX5_safe N sb lw sd lp pf v1 Q) : MetG l g yX5_safe wsX5_safe rmX5_safe [.ref ((a 0) 50), .int v1] (sysW g a sb lw st sp sd ss sy si lp pf) (fun u : RS => sysW g a sb lw st sp u ss sy si lp pf) (qI (fun (r : Int32) (u : RS) => Q r u)) 0 0 := by
  refine met_of (cc := cX5_safe) (own := RX5) (nL := 2) (ret := (some .int)) (lv := [(0, .ref ((a 0) 50)), (1, .int v1)]) (by decide) rfl rfl (Nat.le_of_ble_eq_true rfl) rfl ?_
  intro x C hl hZ
  subst hl
  unfold fX5_safe at h
  refine r_aload_n C dX5_safe_0 rfl ?_
  refine r_iload_n C dX5_safe_1 rfl ?_
  refine r_iconst (v := 5) C dX5_safe_2 (by decide) ?_
  refine callR_I C (run_V (As := [.int v1, .int 5]) (rest := []) (ci := 5) C hZ.2.2 (tX5_isSet _ g a sb lw st sp sd ss sy si lp pf N v1 5 _ h) gX5_safe_X5_isSet rfl dsX5_isSet rfl rfl ⟨(Nat.le_of_ble_eq_true rfl), (Nat.le_of_ble_eq_true rfl)⟩ rfl (List.mem_of_getElem? (i := 0) rfl) rfl (Nat.le_of_ble_eq_true rfl) dX5_safe_3 ⟨Nat.zero_le _, Nat.zero_le _⟩) (List.Sublist.refl _) (fun _ => rfl) (fun r1 _ h => ?_)
  refine r_if_ne (tgt := 11) C dX5_safe_6 (by decide) (fun c2 => ?_) (fun c2 => ?_)
  · have h := h.1 c2
    refine r_aload_n C dX5_safe_11 rfl ?_
    refine r_aload_n C dX5_safe_12 rfl ?_
    refine r_get (cn := RX5) (T := TX5) (N := 13) (ci := 5) C uwX5_safe_5 0 rfl rfl 7 (by decide) kwX5_safe_0 (v := .ref ((a 3) 50)) rfl dX5_safe_13 ?_
    refine r_iload_n C dX5_safe_16 rfl ?_
    refine r_iconst (v := 1) C dX5_safe_17 (by decide) ?_
    refine callW_V C (run_V (As := [.ref ((a 3) 50), .int v1, .int 1]) (rest := []) (ci := 5) C hZ.2.2 (tX5_lay3 _ g a sb lw st sp sd ss sy si lp pf N v1 1 _ h) gX5_safe_X5_lay rfl dsX5_lay rfl rfl ⟨(Nat.le_of_ble_eq_true rfl), (Nat.le_of_ble_eq_true rfl)⟩ rfl (List.mem_of_getElem? (i := 0) rfl) rfl (Nat.le_of_ble_eq_true rfl) dX5_safe_18 ⟨Nat.zero_le _, Nat.zero_le _⟩) (fun sd3 h => ?_)
    show St x 0 0 (sysW g a sb lw st sp sd3 ss sy si lp pf) _ _ 21
    refine r_aload_n C dX5_safe_21 rfl ?_
    refine r_get (cn := RX5) (T := TX5) (N := 13) (ci := 5) C uwX5_safe_5 0 rfl rfl 7 (by decide) kwX5_safe_0 (v := .ref ((a 3) 50)) rfl dX5_safe_22 ?_
    refine r_iconst (v := 1) C dX5_safe_25 (by decide) ?_
    refine callP_V (ws' := fun z => sysW g a sb lw st sp z ss sy si lp pf) C (run_V (As := [.int 1]) (rest := []) (ci := 0) C hZ.2.2 (tX0_solve _ g (a 3) sd3 N 1 _ h) gX5_safe_X0_solve rfl dsX0_solve rfl rfl ⟨(Nat.le_of_ble_eq_true rfl), (Nat.le_of_ble_eq_true rfl)⟩ rfl (List.mem_of_getElem? (i := 7) rfl) rfl (Nat.le_of_ble_eq_true rfl) dX5_safe_26 ⟨Nat.zero_le _, Nat.zero_le _⟩) sp3 (fun _ => sp3) (fun sd4 h => ?_)
    show St x 0 0 (sysW g a sb lw st sp sd4 ss sy si lp pf) _ _ 29
    refine r_aload_n C dX5_safe_29 rfl ?_
    refine r_get (cn := RX5) (T := TX5) (N := 13) (ci := 5) C uwX5_safe_5 0 rfl rfl 7 (by decide) kwX5_safe_0 (v := .ref ((a 3) 50)) rfl dX5_safe_30 ?_
    refine callR_I C (run_V (As := []) (rest := []) (ci := 0) C hZ.2.2 (tX0_safePlaces _ g (a 3) sd4 N _ h) gX5_safe_X0_safePlaces rfl dsX0_safePlaces rfl rfl ⟨(Nat.le_of_ble_eq_true rfl), (Nat.le_of_ble_eq_true rfl)⟩ rfl (List.mem_of_getElem? (i := 7) rfl) rfl (Nat.le_of_ble_eq_true rfl) dX5_safe_33 ⟨Nat.zero_le _, Nat.zero_le _⟩) sl_d (fun _ => rfl) (fun r5 _ h => ?_)
    refine r_aload_n C dX5_safe_36 rfl ?_
    refine r_iload_n C dX5_safe_37 rfl ?_
    refine callR_I C (run_V (As := [.int v1]) (rest := [.int r5]) (ci := 5) C hZ.2.2 (tX5_placesOfNevers _ g a sb lw st sp sd4 ss sy si lp pf N v1 _ h) gX5_safe_X5_placesOfNevers rfl dsX5_placesOfNevers rfl rfl ⟨(Nat.le_of_ble_eq_true rfl), (Nat.le_of_ble_eq_true rfl)⟩ rfl (List.mem_of_getElem? (i := 0) rfl) rfl (Nat.le_of_ble_eq_true rfl) dX5_safe_38 ⟨Nat.zero_le _, Nat.zero_le _⟩) (List.Sublist.refl _) (fun _ => rfl) (fun r6 _ h => ?_)
    refine r_imul C dX5_safe_41 ?_
    exact r_iret C hZ (u := sd4) h rfl dX5_safe_42
  · have h := h.2 c2
    refine r_iconst (v := (-1)) C dX5_safe_9 (by decide) ?_
    exact r_iret C hZ (u := sd) h rfl dX5_safe_10
def rmX5_play : Room := { frames := 4, cells := 0, slots := 0, locals := 108 }
theorem kwX5_play_0 : Cond.fieldLink RX5 40 "WantsBench" "stage" "LWantsBench$Game;" ∈ wsX5_play := by decide +kernel
theorem uwX5_play_5 : ∀ w ∈ wsX50, w ∈ wsX5_play := by decide +kernel
theorem kwX5_play_2 : Cond.fieldLink RX5 153 "WantsBench" "playSet" "I" ∈ wsX5_play := by decide +kernel
theorem kwX5_play_3 : Cond.fieldLink RX5 156 "WantsBench" "playPlace" "I" ∈ wsX5_play := by decide +kernel
def fX5_play_55 (N : Nat) (sb : RS) (lw : Nat → Option Nat) (ss : RS) (lp : List Nat) (pf : Nat → RS) (k0 : Int32) (Q : Int32 → RS → RS → Prop) : Prop :=
  (fX5_bit N k0 (fun r9 => Q r9 sb ss))
set_option maxRecDepth 100000 in
set_option maxHeartbeats 4000000 in
theorem wfX5_play_55 {x : Nx} {g : Gx} {W0 : va_W} {a : Nat → Nat → Nat} {sb : RS} {lw : Nat → Option Nat} {st : RS} {sp : RS} {sd : RS} {ss : RS} {sy : RS} {si : Nat → Option Nat} {lp : List Nat} {pf : Nat → RS} {N : Nat} {k0 : Int32} {Q : Int32 → RS → RS → Prop} (C : Cx x g cX5_play RX5 wsX5_play rmX5_play yX5_play (some .int) 2) (hZ : Zq x g W0 (fun u : RS × RS => sysW g a u.1 lw st sp sd u.2 sy si lp pf) (qI (fun (r : Int32) (u : RS × RS) => Q r u.1 u.2)) 0 0) (h : fX5_play_55 N sb lw ss lp pf k0 Q) : St x 0 0 (sysW g a sb lw st sp sd ss sy si lp pf) [] [.int k0] 55 := by
  unfold fX5_play_55 at h
  refine callR_I C (run_S (As := [.int k0]) (rest := []) C hZ.2.2 (tX5_bit _ g N k0 _ h) gX5_play_X5_bit rfl dsX5_bit rfl rfl ⟨(Nat.le_of_ble_eq_true rfl), (Nat.le_of_ble_eq_true rfl)⟩ rfl (Nat.le_of_ble_eq_true rfl) dX5_play_55 ⟨Nat.zero_le _, Nat.zero_le _⟩) (List.nil_sublist _) (fun _ => rfl) (fun r9 _ h => ?_)
  exact r_iret C hZ (u := (sb, ss)) h rfl dX5_play_58
def fX5_play (N : Nat) (sb : RS) (lw : Nat → Option Nat) (ss : RS) (lp : List Nat) (pf : Nat → RS) (v1 : Int32) (Q : Int32 → RS → RS → Prop) : Prop :=
  (fX5_isSet N sb v1 5 (fun r1 => ((¬ r1 = 0 → (fX5_lay4 N sb lw ss lp pf v1 0 (fun  ss3 => (fX0_solve N ss3 1 (fun  ss4 => (∀ sb5 : RS, sb5 = sI sb 9 v1 → (∀ sb6 : RS, sb6 = sI sb5 10 0 → (fX0_lostIn N ss4 0 (fun r7 => ((¬ r7 = 0 → (fX5_play_55 N sb6 lw ss4 lp pf 0 Q)) ∧ (r7 = 0 → (fX5_play_55 N sb6 lw ss4 lp pf 1 Q)))))))))))) ∧ (r1 = 0 → Q (-1) sb ss))))
set_option maxRecDepth 100000 in
set_option maxHeartbeats 4000000 in
theorem tX5_play (l : Launch) (g : Gx) (a : Nat → Nat → Nat) (sb : RS) (lw : Nat → Option Nat) (st : RS) (sp : RS) (sd : RS) (ss : RS) (sy : RS) (si : Nat → Option Nat) (lp : List Nat) (pf : Nat → RS) (N : Nat) (v1 : Int32) (Q : Int32 → RS → RS → Prop) (h : fX5_play N sb lw ss lp pf v1 Q) : MetG l g yX5_play wsX5_play rmX5_play [.ref ((a 0) 50), .int v1] (sysW g a sb lw st sp sd ss sy si lp pf) (fun u : RS × RS => sysW g a u.1 lw st sp sd u.2 sy si lp pf) (qI (fun (r : Int32) (u : RS × RS) => Q r u.1 u.2)) 0 0 := by
  refine met_of (cc := cX5_play) (own := RX5) (nL := 2) (ret := (some .int)) (lv := [(0, .ref ((a 0) 50)), (1, .int v1)]) (by decide) rfl rfl (Nat.le_of_ble_eq_true rfl) rfl ?_
  intro x C hl hZ
  subst hl
  unfold fX5_play at h
  refine r_aload_n C dX5_play_0 rfl ?_
  refine r_iload_n C dX5_play_1 rfl ?_
  refine r_iconst (v := 5) C dX5_play_2 (by decide) ?_
  refine callR_I C (run_V (As := [.int v1, .int 5]) (rest := []) (ci := 5) C hZ.2.2 (tX5_isSet _ g a sb lw st sp sd ss sy si lp pf N v1 5 _ h) gX5_play_X5_isSet rfl dsX5_isSet rfl rfl ⟨(Nat.le_of_ble_eq_true rfl), (Nat.le_of_ble_eq_true rfl)⟩ rfl (List.mem_of_getElem? (i := 0) rfl) rfl (Nat.le_of_ble_eq_true rfl) dX5_play_3 ⟨Nat.zero_le _, Nat.zero_le _⟩) (List.Sublist.refl _) (fun _ => rfl) (fun r1 _ h => ?_)
  refine r_if_ne (tgt := 11) C dX5_play_6 (by decide) (fun c2 => ?_) (fun c2 => ?_)
  · have h := h.1 c2
    refine r_aload_n C dX5_play_11 rfl ?_
    refine r_aload_n C dX5_play_12 rfl ?_
    refine r_get (cn := RX5) (T := TX5) (N := 13) (ci := 5) C uwX5_play_5 0 rfl rfl 8 (by decide) kwX5_play_0 (v := .ref ((a 4) 50)) rfl dX5_play_13 ?_
    refine r_iload_n C dX5_play_16 rfl ?_
    refine r_iconst (v := 0) C dX5_play_17 (by decide) ?_
    refine callW_V C (run_V (As := [.ref ((a 4) 50), .int v1, .int 0]) (rest := []) (ci := 5) C hZ.2.2 (tX5_lay4 _ g a sb lw st sp sd ss sy si lp pf N v1 0 _ h) gX5_play_X5_lay rfl dsX5_lay rfl rfl ⟨(Nat.le_of_ble_eq_true rfl), (Nat.le_of_ble_eq_true rfl)⟩ rfl (List.mem_of_getElem? (i := 0) rfl) rfl (Nat.le_of_ble_eq_true rfl) dX5_play_18 ⟨Nat.zero_le _, Nat.zero_le _⟩) (fun ss3 h => ?_)
    show St x 0 0 (sysW g a sb lw st sp sd ss3 sy si lp pf) _ _ 21
    refine r_aload_n C dX5_play_21 rfl ?_
    refine r_get (cn := RX5) (T := TX5) (N := 13) (ci := 5) C uwX5_play_5 0 rfl rfl 8 (by decide) kwX5_play_0 (v := .ref ((a 4) 50)) rfl dX5_play_22 ?_
    refine r_iconst (v := 1) C dX5_play_25 (by decide) ?_
    refine callP_V (ws' := fun z => sysW g a sb lw st sp sd z sy si lp pf) C (run_V (As := [.int 1]) (rest := []) (ci := 0) C hZ.2.2 (tX0_solve _ g (a 4) ss3 N 1 _ h) gX5_play_X0_solve rfl dsX0_solve rfl rfl ⟨(Nat.le_of_ble_eq_true rfl), (Nat.le_of_ble_eq_true rfl)⟩ rfl (List.mem_of_getElem? (i := 16) rfl) rfl (Nat.le_of_ble_eq_true rfl) dX5_play_26 ⟨Nat.zero_le _, Nat.zero_le _⟩) sp4 (fun _ => sp4) (fun ss4 h => ?_)
    show St x 0 0 (sysW g a sb lw st sp sd ss4 sy si lp pf) _ _ 29
    refine r_aload_n C dX5_play_29 rfl ?_
    refine r_iload_n C dX5_play_30 rfl ?_
    obtain ⟨sb5, hsb5⟩ : ∃ z : RS, z = sI sb 9 v1 := ⟨_, rfl⟩
    have h := h sb5 hsb5
    refine r_put (cn := RX5) (T := TX5) (N := 13) (ci := 5) (ws' := sysW g a sb5 lw st sp sd ss4 sy si lp pf) C uwX5_play_5 tyX5 tyX5_ok nmX5 0 rfl rfl 9 (by decide) kwX5_play_2 rfl rfl rfl (Nat.le_of_ble_eq_true rfl) dX5_play_31 (by rw [hsb5]; rfl) ?_
    refine r_aload_n C dX5_play_34 rfl ?_
    refine r_iconst (v := 0) C dX5_play_35 (by decide) ?_
    obtain ⟨sb6, hsb6⟩ : ∃ z : RS, z = sI sb5 10 0 := ⟨_, rfl⟩
    have h := h sb6 hsb6
    refine r_put (cn := RX5) (T := TX5) (N := 13) (ci := 5) (ws' := sysW g a sb6 lw st sp sd ss4 sy si lp pf) C uwX5_play_5 tyX5 tyX5_ok nmX5 0 rfl rfl 10 (by decide) kwX5_play_3 rfl rfl rfl (Nat.le_of_ble_eq_true rfl) dX5_play_36 (by rw [hsb6]; rfl) ?_
    refine r_aload_n C dX5_play_39 rfl ?_
    refine r_get (cn := RX5) (T := TX5) (N := 13) (ci := 5) C uwX5_play_5 0 rfl rfl 8 (by decide) kwX5_play_0 (v := .ref ((a 4) 50)) rfl dX5_play_40 ?_
    refine r_iconst (v := 0) C dX5_play_43 (by decide) ?_
    refine callR_I C (run_V (As := [.int 0]) (rest := []) (ci := 0) C hZ.2.2 (tX0_lostIn _ g (a 4) ss4 N 0 _ h) gX5_play_X0_lostIn rfl dsX0_lostIn rfl rfl ⟨(Nat.le_of_ble_eq_true rfl), (Nat.le_of_ble_eq_true rfl)⟩ rfl (List.mem_of_getElem? (i := 16) rfl) rfl (Nat.le_of_ble_eq_true rfl) dX5_play_44 ⟨Nat.zero_le _, Nat.zero_le _⟩) sl_s (fun _ => rfl) (fun r7 _ h => ?_)
    refine r_if_ne (tgt := 54) C dX5_play_47 (by decide) (fun c8 => ?_) (fun c8 => ?_)
    · have h := h.1 c8
      refine r_iconst (v := 0) C dX5_play_54 (by decide) ?_
      refine r_sub [] (lv' := []) rfl ?_
      exact wfX5_play_55 C hZ h
    · have h := h.2 c8
      refine r_iconst (v := 1) C dX5_play_50 (by decide) ?_
      refine r_goto (tgt := 55) C dX5_play_51 (by decide) ?_
      refine r_sub [] (lv' := []) rfl ?_
      exact wfX5_play_55 C hZ h
  · have h := h.2 c2
    refine r_iconst (v := (-1)) C dX5_play_9 (by decide) ?_
    exact r_iret C hZ (u := (sb, ss)) h rfl dX5_play_10
def rmX5_outsOpen : Room := { frames := 3, cells := 0, slots := 0, locals := 80 }
theorem kwX5_outsOpen_0 : Cond.fieldLink RX5 40 "WantsBench" "stage" "LWantsBench$Game;" ∈ wsX5_outsOpen := by decide +kernel
theorem uwX5_outsOpen_5 : ∀ w ∈ wsX50, w ∈ wsX5_outsOpen := by decide +kernel
theorem kwX5_outsOpen_2 : Cond.fieldLink RX5 156 "WantsBench" "playPlace" "I" ∈ wsX5_outsOpen := by decide +kernel
def fX5_outsOpen (N : Nat) (sb : RS) (ss : RS) (v1 : Int32) (Q : Int32 → RS → Prop) : Prop :=
  (fX0_openTolds N ss (sb.1 10) (fun r1 ss2 => Q ((((r1.toUInt64 >>> (((8 : Int32) * v1).toInt64.toUInt64 &&& Int64.toUInt64 63)).toInt64).toInt32) &&& (255 : Int32)) ss2))
set_option maxRecDepth 100000 in
set_option maxHeartbeats 4000000 in
theorem tX5_outsOpen (l : Launch) (g : Gx) (a : Nat → Nat → Nat) (sb : RS) (lw : Nat → Option Nat) (st : RS) (sp : RS) (sd : RS) (ss : RS) (sy : RS) (si : Nat → Option Nat) (lp : List Nat) (pf : Nat → RS) (N : Nat) (v1 : Int32) (Q : Int32 → RS → Prop) (h : fX5_outsOpen N sb ss v1 Q) : MetG l g yX5_outsOpen wsX5_outsOpen rmX5_outsOpen [.ref ((a 0) 50), .int v1] (sysW g a sb lw st sp sd ss sy si lp pf) (fun u : RS => sysW g a sb lw st sp sd u sy si lp pf) (qI (fun (r : Int32) (u : RS) => Q r u)) 0 0 := by
  refine met_of (cc := cX5_outsOpen) (own := RX5) (nL := 2) (ret := (some .int)) (lv := [(0, .ref ((a 0) 50)), (1, .int v1)]) (by decide) rfl rfl (Nat.le_of_ble_eq_true rfl) rfl ?_
  intro x C hl hZ
  subst hl
  unfold fX5_outsOpen at h
  refine r_aload_n C dX5_outsOpen_0 rfl ?_
  refine r_get (cn := RX5) (T := TX5) (N := 13) (ci := 5) C uwX5_outsOpen_5 0 rfl rfl 8 (by decide) kwX5_outsOpen_0 (v := .ref ((a 4) 50)) rfl dX5_outsOpen_1 ?_
  refine r_aload_n C dX5_outsOpen_4 rfl ?_
  refine r_get (cn := RX5) (T := TX5) (N := 13) (ci := 5) C uwX5_outsOpen_5 0 rfl rfl 10 (by decide) kwX5_outsOpen_2 (v := .int (sb.1 10)) rfl dX5_outsOpen_5 ?_
  refine callP_L (ws' := fun z => sysW g a sb lw st sp sd z sy si lp pf) C (run_V (As := [.int (sb.1 10)]) (rest := []) (ci := 0) C hZ.2.2 (tX0_openTolds _ g (a 4) ss N (sb.1 10) _ h) gX5_outsOpen_X0_openTolds rfl dsX0_openTolds rfl rfl ⟨(Nat.le_of_ble_eq_true rfl), (Nat.le_of_ble_eq_true rfl)⟩ rfl (List.mem_of_getElem? (i := 16) rfl) rfl (Nat.le_of_ble_eq_true rfl) dX5_outsOpen_8 ⟨Nat.zero_le _, Nat.zero_le _⟩) sp4 (fun _ => sp4) (fun r1 ss2 h => ?_)
  show St x 0 0 (sysW g a sb lw st sp sd ss2 sy si lp pf) _ _ 11
  refine r_bipush (v := 8) C dX5_outsOpen_11 (by decide) ?_
  refine r_iload_n C dX5_outsOpen_13 rfl ?_
  refine r_imul C dX5_outsOpen_14 ?_
  refine r_lushr C dX5_outsOpen_15 ?_
  refine r_l2i C dX5_outsOpen_16 ?_
  refine r_sipush (v := 255) C dX5_outsOpen_17 (by decide) ?_
  refine r_iand C dX5_outsOpen_20 ?_
  exact r_iret C hZ (u := ss2) h rfl dX5_outsOpen_21
def rmX5_leastBit : Room := { frames := 1, cells := 0, slots := 0, locals := 21 }
def fX5_leastBit_2b (N : Nat) (v0 : Int32) (v1 : Int32) (R : Int32 → Prop) (K : Prop) (Q : Int32 → Prop) : Prop :=
  ((32 ≤ v1 → K) ∧ (¬ 32 ≤ v1 → (fX5_isIn N v0 v1 (fun r2 => ((r2 = 0 → (∀ x4 : Int32, x4 = v1 + 1 → R x4)) ∧ (¬ r2 = 0 → Q v1))))))
set_option maxRecDepth 100000 in
set_option maxHeartbeats 4000000 in
theorem wfX5_leastBit_2b {x : Nx} {g : Gx} {W0 : va_W}   {N : Nat} {v0 : Int32} {v1 : Int32} {R : Int32 → Prop} {K : Prop} {Q : Int32 → Prop} (C : Cx x g cX5_leastBit RX5 wsX5_leastBit rmX5_leastBit yX5_leastBit (some .int) 2) (hZ : Zq x g W0 (fun _ : Unit => ([] : va_W)) (qI (fun (r : Int32) (_ : Unit) => Q r)) 0 0) (hR : ∀ (w1 : Int32), R w1 → St x 0 0 (([] : va_W)) [(0, .int v0), (1, .int w1)] [] 2) (hK : K → St x 0 0 (([] : va_W)) [] [] 24) (h : fX5_leastBit_2b N v0 v1 R K Q) : St x 0 0 (([] : va_W)) [(0, .int v0), (1, .int v1)] [] 2 := by
  unfold fX5_leastBit_2b at h
  refine r_iload_n C dX5_leastBit_2 rfl ?_
  refine r_bipush (v := 32) C dX5_leastBit_3 (by decide) ?_
  refine r_icmp_ge (tgt := 24) C dX5_leastBit_5 (by decide) (fun c1 => ?_) (fun c1 => ?_)
  · have h := h.1 c1
    refine r_sub [] (lv' := []) rfl ?_
    exact hK h
  · have h := h.2 c1
    refine r_iload_n C dX5_leastBit_8 rfl ?_
    refine r_iload_n C dX5_leastBit_9 rfl ?_
    refine callR_I C (run_S (As := [.int v0, .int v1]) (rest := []) C hZ.2.2 (tX5_isIn _ g N v0 v1 _ h) gX5_leastBit_X5_isIn rfl dsX5_isIn rfl rfl ⟨(Nat.le_of_ble_eq_true rfl), (Nat.le_of_ble_eq_true rfl)⟩ rfl (Nat.le_of_ble_eq_true rfl) dX5_leastBit_10 ⟨Nat.zero_le _, Nat.zero_le _⟩) (List.nil_sublist _) (fun _ => rfl) (fun r2 _ h => ?_)
    refine r_if_eq (tgt := 18) C dX5_leastBit_13 (by decide) (fun c3 => ?_) (fun c3 => ?_)
    · have h := h.1 c3
      obtain ⟨x4, ex4⟩ : ∃ z : Int32, z = v1 + 1 := ⟨_, rfl⟩
      have h := h x4 ex4
      refine r_iinc (v := x4) (lv' := [(0, .int v0), (1, .int x4)]) C dX5_leastBit_18 rfl (by rw [ex4]; rfl) [some 0, none] (by decide) rfl rfl ?_
      refine r_goto (tgt := 2) C dX5_leastBit_21 (by decide) ?_
      exact hR x4 h
    · have h := h.2 c3
      refine r_iload_n C dX5_leastBit_16 rfl ?_
      exact r_iret C hZ (u := ()) h rfl dX5_leastBit_17
def fX5_leastBit_2 (N : Nat) (v0 : Int32) (K : Prop) (Q : Int32 → Prop) : Nat → Int32 → Prop
  | 0, _ => False
  | n + 1, v1 => fX5_leastBit_2b N v0 v1 (fun v1 => fX5_leastBit_2 N v0 K Q n v1) K Q
set_option maxRecDepth 100000 in
set_option maxHeartbeats 4000000 in
theorem wfX5_leastBit_2 {x : Nx} {g : Gx} {W0 : va_W}   {N : Nat} {v0 : Int32} {K : Prop} {Q : Int32 → Prop} (C : Cx x g cX5_leastBit RX5 wsX5_leastBit rmX5_leastBit yX5_leastBit (some .int) 2) (hZ : Zq x g W0 (fun _ : Unit => ([] : va_W)) (qI (fun (r : Int32) (_ : Unit) => Q r)) 0 0) (hK : K → St x 0 0 (([] : va_W)) [] [] 24) : ∀ (n : Nat) (v1 : Int32), fX5_leastBit_2 N v0 K Q n v1 → St x 0 0 (([] : va_W)) [(0, .int v0), (1, .int v1)] [] 2 := by
  intro n
  induction n with
  | zero => intro v1 h; exact False.elim h
  | succ n ih => intro v1 h; exact wfX5_leastBit_2b C hZ ih hK h
def fX5_leastBit (N : Nat) (v0 : Int32) (Q : Int32 → Prop) : Prop :=
  (fX5_leastBit_2 N v0 (Q (-1)) Q N 0)
set_option maxRecDepth 100000 in
set_option maxHeartbeats 4000000 in
theorem tX5_leastBit (l : Launch) (g : Gx) (N : Nat) (v0 : Int32) (Q : Int32 → Prop) (h : fX5_leastBit N v0 Q) : MetG l g yX5_leastBit wsX5_leastBit rmX5_leastBit [.int v0] (([] : va_W)) (fun _ : Unit => ([] : va_W)) (qI (fun (r : Int32) (_ : Unit) => Q r)) 0 0 := by
  refine met_of (cc := cX5_leastBit) (own := RX5) (nL := 2) (ret := (some .int)) (lv := [(0, .int v0)]) (by decide) rfl rfl (Nat.le_of_ble_eq_true rfl) rfl ?_
  intro x C hl hZ
  subst hl
  unfold fX5_leastBit at h
  refine r_iconst (v := 0) C dX5_leastBit_0 (by decide) ?_
  refine r_istore_n (lv' := [(0, .int v0), (1, .int 0)]) C dX5_leastBit_1 [some 0, none] (by decide) rfl rfl ?_
  refine wfX5_leastBit_2 C hZ (fun h => ?_) N _ h
  refine r_iconst (v := (-1)) C dX5_leastBit_24 (by decide) ?_
  exact r_iret C hZ (u := ()) h rfl dX5_leastBit_25
def rmX5_tick : Room := { frames := 4, cells := 0, slots := 0, locals := 101 }
theorem kwX5_tick_0 : Cond.fieldLink RX5 153 "WantsBench" "playSet" "I" ∈ wsX5_tick := by decide +kernel
theorem uwX5_tick_5 : ∀ w ∈ wsX50, w ∈ wsX5_tick := by decide +kernel
theorem kwX5_tick_2 : Cond.fieldLink RX5 40 "WantsBench" "stage" "LWantsBench$Game;" ∈ wsX5_tick := by decide +kernel
theorem kwX5_tick_3 : Cond.fieldLink RX5 156 "WantsBench" "playPlace" "I" ∈ wsX5_tick := by decide +kernel
def fX5_tick (N : Nat) (sb : RS) (ss : RS) (v1 : Int32) (Q : Int32 → RS → RS → Prop) : Prop :=
  (((sb.1 9) = 0 → Q (-1) sb ss) ∧ (¬ (sb.1 9) = 0 → (fX5_isWithin N v1 0 7 (fun r2 => ((¬ r2 = 0 → (fX5_outsOpen N sb ss v1 (fun r4 ss5 => ((¬ r4 = 0 → (fX5_leastBit N r4 (fun r7 => (fX0_placeAfter N ss5 (sb.1 10) (((8 : Int32) * v1) + r7) (fun r8 => (∀ sb9 : RS, sb9 = sI sb 10 r8 → Q r7 sb9 ss5)))))) ∧ (r4 = 0 → (∀ sb10 : RS, sb10 = sI sb 9 0 → Q (-4) sb10 ss5)))))) ∧ (r2 = 0 → Q (-1) sb ss))))))
set_option maxRecDepth 100000 in
set_option maxHeartbeats 4000000 in
theorem tX5_tick (l : Launch) (g : Gx) (a : Nat → Nat → Nat) (sb : RS) (lw : Nat → Option Nat) (st : RS) (sp : RS) (sd : RS) (ss : RS) (sy : RS) (si : Nat → Option Nat) (lp : List Nat) (pf : Nat → RS) (N : Nat) (v1 : Int32) (Q : Int32 → RS → RS → Prop) (h : fX5_tick N sb ss v1 Q) : MetG l g yX5_tick wsX5_tick rmX5_tick [.ref ((a 0) 50), .int v1] (sysW g a sb lw st sp sd ss sy si lp pf) (fun u : RS × RS => sysW g a u.1 lw st sp sd u.2 sy si lp pf) (qI (fun (r : Int32) (u : RS × RS) => Q r u.1 u.2)) 0 0 := by
  refine met_of (cc := cX5_tick) (own := RX5) (nL := 4) (ret := (some .int)) (lv := [(0, .ref ((a 0) 50)), (1, .int v1)]) (by decide) rfl rfl (Nat.le_of_ble_eq_true rfl) rfl ?_
  intro x C hl hZ
  subst hl
  unfold fX5_tick at h
  refine r_aload_n C dX5_tick_0 rfl ?_
  refine r_get (cn := RX5) (T := TX5) (N := 13) (ci := 5) C uwX5_tick_5 0 rfl rfl 9 (by decide) kwX5_tick_0 (v := .int (sb.1 9)) rfl dX5_tick_1 ?_
  refine r_if_eq (tgt := 17) C dX5_tick_4 (by decide) (fun c1 => ?_) (fun c1 => ?_)
  · have h := h.1 c1
    refine r_iconst (v := (-1)) C dX5_tick_17 (by decide) ?_
    exact r_iret C hZ (u := (sb, ss)) h rfl dX5_tick_18
  · have h := h.2 c1
    refine r_iload_n C dX5_tick_7 rfl ?_
    refine r_iconst (v := 0) C dX5_tick_8 (by decide) ?_
    refine r_bipush (v := 7) C dX5_tick_9 (by decide) ?_
    refine callR_I C (run_S (As := [.int v1, .int 0, .int 7]) (rest := []) C hZ.2.2 (tX5_isWithin _ g N v1 0 7 _ h) gX5_tick_X5_isWithin rfl dsX5_isWithin rfl rfl ⟨(Nat.le_of_ble_eq_true rfl), (Nat.le_of_ble_eq_true rfl)⟩ rfl (Nat.le_of_ble_eq_true rfl) dX5_tick_11 ⟨Nat.zero_le _, Nat.zero_le _⟩) (List.nil_sublist _) (fun _ => rfl) (fun r2 _ h => ?_)
    refine r_if_ne (tgt := 19) C dX5_tick_14 (by decide) (fun c3 => ?_) (fun c3 => ?_)
    · have h := h.1 c3
      refine r_aload_n C dX5_tick_19 rfl ?_
      refine r_iload_n C dX5_tick_20 rfl ?_
      refine callW_I C (run_V (As := [.int v1]) (rest := []) (ci := 5) C hZ.2.2 (tX5_outsOpen _ g a sb lw st sp sd ss sy si lp pf N v1 _ h) gX5_tick_X5_outsOpen rfl dsX5_outsOpen rfl rfl ⟨(Nat.le_of_ble_eq_true rfl), (Nat.le_of_ble_eq_true rfl)⟩ rfl (List.mem_of_getElem? (i := 0) rfl) rfl (Nat.le_of_ble_eq_true rfl) dX5_tick_21 ⟨Nat.zero_le _, Nat.zero_le _⟩) (fun r4 ss5 h => ?_)
      show St x 0 0 (sysW g a sb lw st sp sd ss5 sy si lp pf) _ _ 24
      refine r_istore_n (lv' := [(0, .ref ((a 0) 50)), (1, .int v1), (2, .int r4)]) C dX5_tick_24 [some 0, some 1, none] (by decide) rfl rfl ?_
      refine r_iload_n C dX5_tick_25 rfl ?_
      refine r_if_ne (tgt := 37) C dX5_tick_26 (by decide) (fun c6 => ?_) (fun c6 => ?_)
      · have h := h.1 c6
        refine r_iload_n C dX5_tick_37 rfl ?_
        refine callR_I C (run_S (As := [.int r4]) (rest := []) C hZ.2.2 (tX5_leastBit _ g N r4 _ h) gX5_tick_X5_leastBit rfl dsX5_leastBit rfl rfl ⟨(Nat.le_of_ble_eq_true rfl), (Nat.le_of_ble_eq_true rfl)⟩ rfl (Nat.le_of_ble_eq_true rfl) dX5_tick_38 ⟨Nat.zero_le _, Nat.zero_le _⟩) (List.nil_sublist _) (fun _ => rfl) (fun r7 _ h => ?_)
        refine r_istore_n (lv' := [(0, .ref ((a 0) 50)), (1, .int v1), (3, .int r7)]) C dX5_tick_41 [some 0, some 1, none] (by decide) rfl rfl ?_
        refine r_aload_n C dX5_tick_42 rfl ?_
        refine r_aload_n C dX5_tick_43 rfl ?_
        refine r_get (cn := RX5) (T := TX5) (N := 13) (ci := 5) C uwX5_tick_5 0 rfl rfl 8 (by decide) kwX5_tick_2 (v := .ref ((a 4) 50)) rfl dX5_tick_44 ?_
        refine r_aload_n C dX5_tick_47 rfl ?_
        refine r_get (cn := RX5) (T := TX5) (N := 13) (ci := 5) C uwX5_tick_5 0 rfl rfl 10 (by decide) kwX5_tick_3 (v := .int (sb.1 10)) rfl dX5_tick_48 ?_
        refine r_bipush (v := 8) C dX5_tick_51 (by decide) ?_
        refine r_iload_n C dX5_tick_53 rfl ?_
        refine r_imul C dX5_tick_54 ?_
        refine r_iload_n C dX5_tick_55 rfl ?_
        refine r_iadd C dX5_tick_56 ?_
        refine callR_I C (run_V (As := [.int (sb.1 10), .int (((8 : Int32) * v1) + r7)]) (rest := [.ref ((a 0) 50)]) (ci := 0) C hZ.2.2 (tX0_placeAfter _ g (a 4) ss5 N (sb.1 10) (((8 : Int32) * v1) + r7) _ h) gX5_tick_X0_placeAfter rfl dsX0_placeAfter rfl rfl ⟨(Nat.le_of_ble_eq_true rfl), (Nat.le_of_ble_eq_true rfl)⟩ rfl (List.mem_of_getElem? (i := 16) rfl) rfl (Nat.le_of_ble_eq_true rfl) dX5_tick_57 ⟨Nat.zero_le _, Nat.zero_le _⟩) sl_s (fun _ => rfl) (fun r8 _ h => ?_)
        obtain ⟨sb9, hsb9⟩ : ∃ z : RS, z = sI sb 10 r8 := ⟨_, rfl⟩
        have h := h sb9 hsb9
        refine r_put (cn := RX5) (T := TX5) (N := 13) (ci := 5) (ws' := sysW g a sb9 lw st sp sd ss5 sy si lp pf) C uwX5_tick_5 tyX5 tyX5_ok nmX5 0 rfl rfl 10 (by decide) kwX5_tick_3 rfl rfl rfl (Nat.le_of_ble_eq_true rfl) dX5_tick_60 (by rw [hsb9]; rfl) ?_
        refine r_iload_n C dX5_tick_63 rfl ?_
        exact r_iret C hZ (u := (sb9, ss5)) h rfl dX5_tick_64
      · have h := h.2 c6
        refine r_aload_n C dX5_tick_29 rfl ?_
        refine r_iconst (v := 0) C dX5_tick_30 (by decide) ?_
        obtain ⟨sb10, hsb10⟩ : ∃ z : RS, z = sI sb 9 0 := ⟨_, rfl⟩
        have h := h sb10 hsb10
        refine r_put (cn := RX5) (T := TX5) (N := 13) (ci := 5) (ws' := sysW g a sb10 lw st sp sd ss5 sy si lp pf) C uwX5_tick_5 tyX5 tyX5_ok nmX5 0 rfl rfl 9 (by decide) kwX5_tick_0 rfl rfl rfl (Nat.le_of_ble_eq_true rfl) dX5_tick_31 (by rw [hsb10]; rfl) ?_
        refine r_bipush (v := (-4)) C dX5_tick_34 (by decide) ?_
        exact r_iret C hZ (u := (sb10, ss5)) h rfl dX5_tick_36
    · have h := h.2 c3
      refine r_iconst (v := (-1)) C dX5_tick_17 (by decide) ?_
      exact r_iret C hZ (u := (sb, ss)) h rfl dX5_tick_18
def rmX5_open : Room := { frames := 4, cells := 0, slots := 0, locals := 101 }
theorem kwX5_open_0 : Cond.fieldLink RX5 153 "WantsBench" "playSet" "I" ∈ wsX5_open := by decide +kernel
theorem uwX5_open_5 : ∀ w ∈ wsX50, w ∈ wsX5_open := by decide +kernel
def fX5_open (N : Nat) (sb : RS) (ss : RS) (v1 : Int32) (Q : Int32 → RS → Prop) : Prop :=
  (((sb.1 9) = 0 → Q (-1) ss) ∧ (¬ (sb.1 9) = 0 → (fX5_isWithin N v1 0 7 (fun r2 => ((¬ r2 = 0 → (fX5_outsOpen N sb ss v1 (fun r4 ss5 => (fJ6_bitCount_0f7a4 N r4 (fun r6 => Q r6 ss5))))) ∧ (r2 = 0 → Q (-1) ss))))))
set_option maxRecDepth 100000 in
set_option maxHeartbeats 4000000 in
theorem tX5_open (l : Launch) (g : Gx) (a : Nat → Nat → Nat) (sb : RS) (lw : Nat → Option Nat) (st : RS) (sp : RS) (sd : RS) (ss : RS) (sy : RS) (si : Nat → Option Nat) (lp : List Nat) (pf : Nat → RS) (N : Nat) (v1 : Int32) (Q : Int32 → RS → Prop) (h : fX5_open N sb ss v1 Q) : MetG l g yX5_open wsX5_open rmX5_open [.ref ((a 0) 50), .int v1] (sysW g a sb lw st sp sd ss sy si lp pf) (fun u : RS => sysW g a sb lw st sp sd u sy si lp pf) (qI (fun (r : Int32) (u : RS) => Q r u)) 0 0 := by
  refine met_of (cc := cX5_open) (own := RX5) (nL := 2) (ret := (some .int)) (lv := [(0, .ref ((a 0) 50)), (1, .int v1)]) (by decide) rfl rfl (Nat.le_of_ble_eq_true rfl) rfl ?_
  intro x C hl hZ
  subst hl
  unfold fX5_open at h
  refine r_aload_n C dX5_open_0 rfl ?_
  refine r_get (cn := RX5) (T := TX5) (N := 13) (ci := 5) C uwX5_open_5 0 rfl rfl 9 (by decide) kwX5_open_0 (v := .int (sb.1 9)) rfl dX5_open_1 ?_
  refine r_if_eq (tgt := 17) C dX5_open_4 (by decide) (fun c1 => ?_) (fun c1 => ?_)
  · have h := h.1 c1
    refine r_iconst (v := (-1)) C dX5_open_17 (by decide) ?_
    exact r_iret C hZ (u := ss) h rfl dX5_open_18
  · have h := h.2 c1
    refine r_iload_n C dX5_open_7 rfl ?_
    refine r_iconst (v := 0) C dX5_open_8 (by decide) ?_
    refine r_bipush (v := 7) C dX5_open_9 (by decide) ?_
    refine callR_I C (run_S (As := [.int v1, .int 0, .int 7]) (rest := []) C hZ.2.2 (tX5_isWithin _ g N v1 0 7 _ h) gX5_open_X5_isWithin rfl dsX5_isWithin rfl rfl ⟨(Nat.le_of_ble_eq_true rfl), (Nat.le_of_ble_eq_true rfl)⟩ rfl (Nat.le_of_ble_eq_true rfl) dX5_open_11 ⟨Nat.zero_le _, Nat.zero_le _⟩) (List.nil_sublist _) (fun _ => rfl) (fun r2 _ h => ?_)
    refine r_if_ne (tgt := 19) C dX5_open_14 (by decide) (fun c3 => ?_) (fun c3 => ?_)
    · have h := h.1 c3
      refine r_aload_n C dX5_open_19 rfl ?_
      refine r_iload_n C dX5_open_20 rfl ?_
      refine callW_I C (run_V (As := [.int v1]) (rest := []) (ci := 5) C hZ.2.2 (tX5_outsOpen _ g a sb lw st sp sd ss sy si lp pf N v1 _ h) gX5_open_X5_outsOpen rfl dsX5_outsOpen rfl rfl ⟨(Nat.le_of_ble_eq_true rfl), (Nat.le_of_ble_eq_true rfl)⟩ rfl (List.mem_of_getElem? (i := 0) rfl) rfl (Nat.le_of_ble_eq_true rfl) dX5_open_21 ⟨Nat.zero_le _, Nat.zero_le _⟩) (fun r4 ss5 h => ?_)
      show St x 0 0 (sysW g a sb lw st sp sd ss5 sy si lp pf) _ _ 24
      refine callR_I C (run_S (As := [.int r4]) (rest := []) C hZ.2.2 (tJ6_bitCount_0f7a4 _ g N r4 _ h) gX5_open_J6_bitCount_0f7a4 rfl dsJ6_bitCount_0f7a4 rfl rfl ⟨(Nat.le_of_ble_eq_true rfl), (Nat.le_of_ble_eq_true rfl)⟩ rfl (Nat.le_of_ble_eq_true rfl) dX5_open_24 ⟨Nat.zero_le _, Nat.zero_le _⟩) (List.nil_sublist _) (fun _ => rfl) (fun r6 _ h => ?_)
      exact r_iret C hZ (u := ss5) h rfl dX5_open_27
    · have h := h.2 c3
      refine r_iconst (v := (-1)) C dX5_open_17 (by decide) ?_
      exact r_iret C hZ (u := ss) h rfl dX5_open_18
def rmX5_state : Room := { frames := 1, cells := 0, slots := 0, locals := 22 }
theorem kwX5_state_0 : Cond.fieldLink RX5 153 "WantsBench" "playSet" "I" ∈ wsX5_state := by decide +kernel
theorem uwX5_state_5 : ∀ w ∈ wsX50, w ∈ wsX5_state := by decide +kernel
theorem kwX5_state_2 : Cond.fieldLink RX5 156 "WantsBench" "playPlace" "I" ∈ wsX5_state := by decide +kernel
def fX5_state (N : Nat) (sb : RS) (v1 : Int32) (Q : Int32 → Prop) : Prop :=
  (fX5_isWithin N v1 0 19 (fun r1 => ((r1 = 0 → Q (-1)) ∧ (¬ r1 = 0 → (fX5_isIn N (sb.1 9) v1 (fun r3 => ((¬ r3 = 0 → (fJ6_bitCount_0f7a4 N ((sb.1 9) &&& (((1 : Int32) <<< (v1 &&& 31)) - (1 : Int32))) (fun r5 => (fX0_stateAt N (sb.1 10) r5 (fun r6 => Q r6))))) ∧ (r3 = 0 → Q (-1)))))))))
set_option maxRecDepth 100000 in
set_option maxHeartbeats 4000000 in
theorem tX5_state (l : Launch) (g : Gx) (a : Nat → Nat → Nat) (sb : RS) (lw : Nat → Option Nat) (st : RS) (sp : RS) (sd : RS) (ss : RS) (sy : RS) (si : Nat → Option Nat) (lp : List Nat) (pf : Nat → RS) (N : Nat) (v1 : Int32) (Q : Int32 → Prop) (h : fX5_state N sb v1 Q) : MetG l g yX5_state wsX5_state rmX5_state [.ref ((a 0) 50), .int v1] (sysW g a sb lw st sp sd ss sy si lp pf) (fun _ : Unit => sysW g a sb lw st sp sd ss sy si lp pf) (qI (fun (r : Int32) (_ : Unit) => Q r)) 0 0 := by
  refine met_of (cc := cX5_state) (own := RX5) (nL := 3) (ret := (some .int)) (lv := [(0, .ref ((a 0) 50)), (1, .int v1)]) (by decide) rfl rfl (Nat.le_of_ble_eq_true rfl) rfl ?_
  intro x C hl hZ
  subst hl
  unfold fX5_state at h
  refine r_iload_n C dX5_state_0 rfl ?_
  refine r_iconst (v := 0) C dX5_state_1 (by decide) ?_
  refine r_bipush (v := 19) C dX5_state_2 (by decide) ?_
  refine callR_I C (run_S (As := [.int v1, .int 0, .int 19]) (rest := []) C hZ.2.2 (tX5_isWithin _ g N v1 0 19 _ h) gX5_state_X5_isWithin rfl dsX5_isWithin rfl rfl ⟨(Nat.le_of_ble_eq_true rfl), (Nat.le_of_ble_eq_true rfl)⟩ rfl (Nat.le_of_ble_eq_true rfl) dX5_state_4 ⟨Nat.zero_le _, Nat.zero_le _⟩) (List.nil_sublist _) (fun _ => rfl) (fun r1 _ h => ?_)
  refine r_if_eq (tgt := 21) C dX5_state_7 (by decide) (fun c2 => ?_) (fun c2 => ?_)
  · have h := h.1 c2
    refine r_iconst (v := (-1)) C dX5_state_21 (by decide) ?_
    exact r_iret C hZ (u := ()) h rfl dX5_state_22
  · have h := h.2 c2
    refine r_aload_n C dX5_state_10 rfl ?_
    refine r_get (cn := RX5) (T := TX5) (N := 13) (ci := 5) C uwX5_state_5 0 rfl rfl 9 (by decide) kwX5_state_0 (v := .int (sb.1 9)) rfl dX5_state_11 ?_
    refine r_iload_n C dX5_state_14 rfl ?_
    refine callR_I C (run_S (As := [.int (sb.1 9), .int v1]) (rest := []) C hZ.2.2 (tX5_isIn _ g N (sb.1 9) v1 _ h) gX5_state_X5_isIn rfl dsX5_isIn rfl rfl ⟨(Nat.le_of_ble_eq_true rfl), (Nat.le_of_ble_eq_true rfl)⟩ rfl (Nat.le_of_ble_eq_true rfl) dX5_state_15 ⟨Nat.zero_le _, Nat.zero_le _⟩) (List.nil_sublist _) (fun _ => rfl) (fun r3 _ h => ?_)
    refine r_if_ne (tgt := 23) C dX5_state_18 (by decide) (fun c4 => ?_) (fun c4 => ?_)
    · have h := h.1 c4
      refine r_aload_n C dX5_state_23 rfl ?_
      refine r_get (cn := RX5) (T := TX5) (N := 13) (ci := 5) C uwX5_state_5 0 rfl rfl 9 (by decide) kwX5_state_0 (v := .int (sb.1 9)) rfl dX5_state_24 ?_
      refine r_iconst (v := 1) C dX5_state_27 (by decide) ?_
      refine r_iload_n C dX5_state_28 rfl ?_
      refine r_ishl C dX5_state_29 ?_
      refine r_iconst (v := 1) C dX5_state_30 (by decide) ?_
      refine r_isub C dX5_state_31 ?_
      refine r_iand C dX5_state_32 ?_
      refine callR_I C (run_S (As := [.int ((sb.1 9) &&& (((1 : Int32) <<< (v1 &&& 31)) - (1 : Int32)))]) (rest := []) C hZ.2.2 (tJ6_bitCount_0f7a4 _ g N ((sb.1 9) &&& (((1 : Int32) <<< (v1 &&& 31)) - (1 : Int32))) _ h) gX5_state_J6_bitCount_0f7a4 rfl dsJ6_bitCount_0f7a4 rfl rfl ⟨(Nat.le_of_ble_eq_true rfl), (Nat.le_of_ble_eq_true rfl)⟩ rfl (Nat.le_of_ble_eq_true rfl) dX5_state_33 ⟨Nat.zero_le _, Nat.zero_le _⟩) (List.nil_sublist _) (fun _ => rfl) (fun r5 _ h => ?_)
      refine r_istore_n (lv' := [(0, .ref ((a 0) 50)), (2, .int r5)]) C dX5_state_36 [some 0, none] (by decide) rfl rfl ?_
      refine r_aload_n C dX5_state_37 rfl ?_
      refine r_get (cn := RX5) (T := TX5) (N := 13) (ci := 5) C uwX5_state_5 0 rfl rfl 10 (by decide) kwX5_state_2 (v := .int (sb.1 10)) rfl dX5_state_38 ?_
      refine r_iload_n C dX5_state_41 rfl ?_
      refine callR_I C (run_S (As := [.int (sb.1 10), .int r5]) (rest := []) C hZ.2.2 (tX0_stateAt _ g N (sb.1 10) r5 _ h) gX5_state_X0_stateAt rfl dsX0_stateAt rfl rfl ⟨(Nat.le_of_ble_eq_true rfl), (Nat.le_of_ble_eq_true rfl)⟩ rfl (Nat.le_of_ble_eq_true rfl) dX5_state_42 ⟨Nat.zero_le _, Nat.zero_le _⟩) (List.nil_sublist _) (fun _ => rfl) (fun r6 _ h => ?_)
      exact r_iret C hZ (u := ()) h rfl dX5_state_45
    · have h := h.2 c4
      refine r_iconst (v := (-1)) C dX5_state_21 (by decide) ?_
      exact r_iret C hZ (u := ()) h rfl dX5_state_22
def rmX5_loses : Room := { frames := 5, cells := 0, slots := 0, locals := 129 }
theorem kwX5_loses_0 : Cond.fieldLink RX5 36 "WantsBench" "desk" "LWantsBench$Game;" ∈ wsX5_loses := by decide +kernel
theorem uwX5_loses_5 : ∀ w ∈ wsX50, w ∈ wsX5_loses := by decide +kernel
def fX5_loses (N : Nat) (sb : RS) (lw : Nat → Option Nat) (sd : RS) (lp : List Nat) (pf : Nat → RS) (v1 : Int32) (Q : Int32 → RS → Prop) : Prop :=
  (fX5_isSet N sb v1 5 (fun r1 => ((¬ r1 = 0 → (fX5_isObeyable N sb lw sd lp pf v1 (fun r3 sd4 => ((r3 = 0 → (fX0_lostIn N sd4 0 (fun r6 => Q r6 sd4))) ∧ (¬ r3 = 0 → Q (-4) sd4))))) ∧ (r1 = 0 → Q (-1) sd))))
set_option maxRecDepth 100000 in
set_option maxHeartbeats 4000000 in
theorem tX5_loses (l : Launch) (g : Gx) (a : Nat → Nat → Nat) (sb : RS) (lw : Nat → Option Nat) (st : RS) (sp : RS) (sd : RS) (ss : RS) (sy : RS) (si : Nat → Option Nat) (lp : List Nat) (pf : Nat → RS) (N : Nat) (v1 : Int32) (Q : Int32 → RS → Prop) (h : fX5_loses N sb lw sd lp pf v1 Q) : MetG l g yX5_loses wsX5_loses rmX5_loses [.ref ((a 0) 50), .int v1] (sysW g a sb lw st sp sd ss sy si lp pf) (fun u : RS => sysW g a sb lw st sp u ss sy si lp pf) (qI (fun (r : Int32) (u : RS) => Q r u)) 0 0 := by
  refine met_of (cc := cX5_loses) (own := RX5) (nL := 2) (ret := (some .int)) (lv := [(0, .ref ((a 0) 50)), (1, .int v1)]) (by decide) rfl rfl (Nat.le_of_ble_eq_true rfl) rfl ?_
  intro x C hl hZ
  subst hl
  unfold fX5_loses at h
  refine r_aload_n C dX5_loses_0 rfl ?_
  refine r_iload_n C dX5_loses_1 rfl ?_
  refine r_iconst (v := 5) C dX5_loses_2 (by decide) ?_
  refine callR_I C (run_V (As := [.int v1, .int 5]) (rest := []) (ci := 5) C hZ.2.2 (tX5_isSet _ g a sb lw st sp sd ss sy si lp pf N v1 5 _ h) gX5_loses_X5_isSet rfl dsX5_isSet rfl rfl ⟨(Nat.le_of_ble_eq_true rfl), (Nat.le_of_ble_eq_true rfl)⟩ rfl (List.mem_of_getElem? (i := 0) rfl) rfl (Nat.le_of_ble_eq_true rfl) dX5_loses_3 ⟨Nat.zero_le _, Nat.zero_le _⟩) (List.Sublist.refl _) (fun _ => rfl) (fun r1 _ h => ?_)
  refine r_if_ne (tgt := 11) C dX5_loses_6 (by decide) (fun c2 => ?_) (fun c2 => ?_)
  · have h := h.1 c2
    refine r_aload_n C dX5_loses_11 rfl ?_
    refine r_iload_n C dX5_loses_12 rfl ?_
    refine callW_I C (run_V (As := [.int v1]) (rest := []) (ci := 5) C hZ.2.2 (tX5_isObeyable _ g a sb lw st sp sd ss sy si lp pf N v1 _ h) gX5_loses_X5_isObeyable rfl dsX5_isObeyable rfl rfl ⟨(Nat.le_of_ble_eq_true rfl), (Nat.le_of_ble_eq_true rfl)⟩ rfl (List.mem_of_getElem? (i := 0) rfl) rfl (Nat.le_of_ble_eq_true rfl) dX5_loses_13 ⟨Nat.zero_le _, Nat.zero_le _⟩) (fun r3 sd4 h => ?_)
    show St x 0 0 (sysW g a sb lw st sp sd4 ss sy si lp pf) _ _ 16
    refine r_if_eq (tgt := 24) C dX5_loses_16 (by decide) (fun c5 => ?_) (fun c5 => ?_)
    · have h := h.1 c5
      refine r_aload_n C dX5_loses_24 rfl ?_
      refine r_get (cn := RX5) (T := TX5) (N := 13) (ci := 5) C uwX5_loses_5 0 rfl rfl 7 (by decide) kwX5_loses_0 (v := .ref ((a 3) 50)) rfl dX5_loses_25 ?_
      refine r_iconst (v := 0) C dX5_loses_28 (by decide) ?_
      refine callR_I C (run_V (As := [.int 0]) (rest := []) (ci := 0) C hZ.2.2 (tX0_lostIn _ g (a 3) sd4 N 0 _ h) gX5_loses_X0_lostIn rfl dsX0_lostIn rfl rfl ⟨(Nat.le_of_ble_eq_true rfl), (Nat.le_of_ble_eq_true rfl)⟩ rfl (List.mem_of_getElem? (i := 7) rfl) rfl (Nat.le_of_ble_eq_true rfl) dX5_loses_29 ⟨Nat.zero_le _, Nat.zero_le _⟩) sl_d (fun _ => rfl) (fun r6 _ h => ?_)
      exact r_iret C hZ (u := sd4) h rfl dX5_loses_32
    · have h := h.2 c5
      refine r_bipush (v := (-4)) C dX5_loses_19 (by decide) ?_
      refine r_goto (tgt := 32) C dX5_loses_21 (by decide) ?_
      exact r_iret C hZ (u := sd4) h rfl dX5_loses_32
  · have h := h.2 c2
    refine r_iconst (v := (-1)) C dX5_loses_9 (by decide) ?_
    exact r_iret C hZ (u := sd) h rfl dX5_loses_10
def rmX5_world : Room := { frames := 5, cells := 0, slots := 0, locals := 129 }
theorem kwX5_world_0 : Cond.fieldLink RX5 36 "WantsBench" "desk" "LWantsBench$Game;" ∈ wsX5_world := by decide +kernel
theorem uwX5_world_5 : ∀ w ∈ wsX50, w ∈ wsX5_world := by decide +kernel
def fX5_world (N : Nat) (sb : RS) (lw : Nat → Option Nat) (sd : RS) (lp : List Nat) (pf : Nat → RS) (v1 : Int32) (Q : Int32 → RS → Prop) : Prop :=
  (fX5_isSet N sb v1 5 (fun r1 => ((¬ r1 = 0 → (fX5_isObeyable N sb lw sd lp pf v1 (fun r3 sd4 => ((r3 = 0 → (fX0_winningIn N sd4 0 (fun r6 sd7 => Q r6 sd7))) ∧ (¬ r3 = 0 → Q (-4) sd4))))) ∧ (r1 = 0 → Q (-1) sd))))
set_option maxRecDepth 100000 in
set_option maxHeartbeats 4000000 in
theorem tX5_world (l : Launch) (g : Gx) (a : Nat → Nat → Nat) (sb : RS) (lw : Nat → Option Nat) (st : RS) (sp : RS) (sd : RS) (ss : RS) (sy : RS) (si : Nat → Option Nat) (lp : List Nat) (pf : Nat → RS) (N : Nat) (v1 : Int32) (Q : Int32 → RS → Prop) (h : fX5_world N sb lw sd lp pf v1 Q) : MetG l g yX5_world wsX5_world rmX5_world [.ref ((a 0) 50), .int v1] (sysW g a sb lw st sp sd ss sy si lp pf) (fun u : RS => sysW g a sb lw st sp u ss sy si lp pf) (qI (fun (r : Int32) (u : RS) => Q r u)) 0 0 := by
  refine met_of (cc := cX5_world) (own := RX5) (nL := 2) (ret := (some .int)) (lv := [(0, .ref ((a 0) 50)), (1, .int v1)]) (by decide) rfl rfl (Nat.le_of_ble_eq_true rfl) rfl ?_
  intro x C hl hZ
  subst hl
  unfold fX5_world at h
  refine r_aload_n C dX5_world_0 rfl ?_
  refine r_iload_n C dX5_world_1 rfl ?_
  refine r_iconst (v := 5) C dX5_world_2 (by decide) ?_
  refine callR_I C (run_V (As := [.int v1, .int 5]) (rest := []) (ci := 5) C hZ.2.2 (tX5_isSet _ g a sb lw st sp sd ss sy si lp pf N v1 5 _ h) gX5_world_X5_isSet rfl dsX5_isSet rfl rfl ⟨(Nat.le_of_ble_eq_true rfl), (Nat.le_of_ble_eq_true rfl)⟩ rfl (List.mem_of_getElem? (i := 0) rfl) rfl (Nat.le_of_ble_eq_true rfl) dX5_world_3 ⟨Nat.zero_le _, Nat.zero_le _⟩) (List.Sublist.refl _) (fun _ => rfl) (fun r1 _ h => ?_)
  refine r_if_ne (tgt := 11) C dX5_world_6 (by decide) (fun c2 => ?_) (fun c2 => ?_)
  · have h := h.1 c2
    refine r_aload_n C dX5_world_11 rfl ?_
    refine r_iload_n C dX5_world_12 rfl ?_
    refine callW_I C (run_V (As := [.int v1]) (rest := []) (ci := 5) C hZ.2.2 (tX5_isObeyable _ g a sb lw st sp sd ss sy si lp pf N v1 _ h) gX5_world_X5_isObeyable rfl dsX5_isObeyable rfl rfl ⟨(Nat.le_of_ble_eq_true rfl), (Nat.le_of_ble_eq_true rfl)⟩ rfl (List.mem_of_getElem? (i := 0) rfl) rfl (Nat.le_of_ble_eq_true rfl) dX5_world_13 ⟨Nat.zero_le _, Nat.zero_le _⟩) (fun r3 sd4 h => ?_)
    show St x 0 0 (sysW g a sb lw st sp sd4 ss sy si lp pf) _ _ 16
    refine r_if_eq (tgt := 24) C dX5_world_16 (by decide) (fun c5 => ?_) (fun c5 => ?_)
    · have h := h.1 c5
      refine r_aload_n C dX5_world_24 rfl ?_
      refine r_get (cn := RX5) (T := TX5) (N := 13) (ci := 5) C uwX5_world_5 0 rfl rfl 7 (by decide) kwX5_world_0 (v := .ref ((a 3) 50)) rfl dX5_world_25 ?_
      refine r_iconst (v := 0) C dX5_world_28 (by decide) ?_
      refine callP_I (ws' := fun z => sysW g a sb lw st sp z ss sy si lp pf) C (run_V (As := [.int 0]) (rest := []) (ci := 0) C hZ.2.2 (tX0_winningIn _ g (a 3) sd4 N 0 _ h) gX5_world_X0_winningIn rfl dsX0_winningIn rfl rfl ⟨(Nat.le_of_ble_eq_true rfl), (Nat.le_of_ble_eq_true rfl)⟩ rfl (List.mem_of_getElem? (i := 7) rfl) rfl (Nat.le_of_ble_eq_true rfl) dX5_world_29 ⟨Nat.zero_le _, Nat.zero_le _⟩) sp3 (fun _ => sp3) (fun r6 sd7 h => ?_)
      show St x 0 0 (sysW g a sb lw st sp sd7 ss sy si lp pf) _ _ 32
      exact r_iret C hZ (u := sd7) h rfl dX5_world_32
    · have h := h.2 c5
      refine r_bipush (v := (-4)) C dX5_world_19 (by decide) ?_
      refine r_goto (tgt := 32) C dX5_world_21 (by decide) ?_
      exact r_iret C hZ (u := sd4) h rfl dX5_world_32
  · have h := h.2 c2
    refine r_iconst (v := (-1)) C dX5_world_9 (by decide) ?_
    exact r_iret C hZ (u := sd) h rfl dX5_world_10
