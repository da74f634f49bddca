def rmX4_stands : Room := { frames := 4, cells := 0, slots := 0, locals := 108 }
theorem kwX4_stands_0 : Cond.fieldLink RX4 17 "WantsBench$Treaty" "terms" "[I" ∈ wsX4_stands := by decide +kernel
theorem uwX4_stands_4 : ∀ w ∈ wsX40, w ∈ wsX4_stands := by decide +kernel
theorem kwX4_stands_2 : Cond.fieldLink RX4 13 "WantsBench$Treaty" "sides" "[LWantsBench$Law;" ∈ wsX4_stands := by decide +kernel
def fX4_stands_6b (N : Nat) (Y : RS) (si : Nat → Option Nat) (G : RS) (lp : List Nat) (pf : Nat → RS) (v2 : Int32) (v3 : Int32) (R : Int32 → RS → Prop) (K : RS → Prop) (Q : Int32 → RS → Prop) : Prop :=
  ((v2 ≤ v3 → K G) ∧ (¬ v2 ≤ v3 → ((4 ≤ v3 → K G) ∧ (¬ 4 ≤ v3 → (vp_in v3 4 ∧ (((Y.2.1 1 v3.toNatClampNeg) = 4 → (∀ x6 : Int32, x6 = v3 + 1 → R x6 G)) ∧ (¬ (Y.2.1 1 v3.toNatClampNeg) = 4 → (vp_in v3 4 ∧ (∃ q8 : Nat, si v3.toNatClampNeg = some q8 ∧ (vp_in v3 4 ∧ (∃ q11 : Nat, si v3.toNatClampNeg = some q11 ∧ (vp_in v3 4 ∧ (q11 ∈ lp ∧ (fX1_eased N (pf q11) (Y.2.1 1 v3.toNatClampNeg) (fun r15 => (q8 ∈ lp ∧ (fX0_enter N G (pf q8) r15 0 (fun  G17 => (∀ x18 : Int32, x18 = v3 + 1 → R x18 G17)))))))))))))))))))
set_option maxRecDepth 100000 in
set_option maxHeartbeats 4000000 in
theorem wfX4_stands_6b {x : Nx} {g : Gx} {W0 : va_W} {a : Nat → Nat} {d : Nat → Nat} {Y : RS} {si : Nat → Option Nat} {G : RS} {lp : List Nat} {pf : Nat → RS} {N : Nat} {v2 : Int32} {v3 : Int32} {R : Int32 → RS → Prop} {K : RS → Prop} {Q : Int32 → RS → Prop} (C : Cx x g cX4_stands RX4 wsX4_stands rmX4_stands yX4_stands (some .boolean) 4) (hZ : Zq x g W0 (fun u : RS => trW g a d Y si u lp pf) (qI (fun (r : Int32) (u : RS) => Q r u)) 0 0) (hR : ∀ (w3 : Int32) (G_ : RS), R w3 G_ → St x 0 0 (trW g a d Y si G_ lp pf) [(0, .ref (a 50)), (1, .ref (d 50)), (2, .int v2), (3, .int w3)] [] 6) (hK : ∀ (G_ : RS), K G_ → St x 0 0 (trW g a d Y si G_ lp pf) [(1, .ref (d 50))] [] 58) (h : fX4_stands_6b N Y si G lp pf v2 v3 R K Q) : St x 0 0 (trW g a d Y si G lp pf) [(0, .ref (a 50)), (1, .ref (d 50)), (2, .int v2), (3, .int v3)] [] 6 := by
  unfold fX4_stands_6b at h
  refine r_iload_n C dX4_stands_6 rfl ?_
  refine r_iload_n C dX4_stands_7 rfl ?_
  refine r_icmp_ge (tgt := 58) C dX4_stands_8 (by decide) (fun c2 => ?_) (fun c2 => ?_)
  · have h := h.1 c2
    refine r_sub [1] (lv' := [(1, .ref (d 50))]) rfl ?_
    exact hK G h
  · have h := h.2 c2
    refine r_iload_n C dX4_stands_11 rfl ?_
    refine r_iconst (v := 4) C dX4_stands_12 (by decide) ?_
    refine r_icmp_ge (tgt := 58) C dX4_stands_13 (by decide) (fun c3 => ?_) (fun c3 => ?_)
    · have h := h.1 c3
      refine r_sub [1] (lv' := [(1, .ref (d 50))]) rfl ?_
      exact hK G h
    · have h := h.2 c3
      refine r_aload_n C dX4_stands_16 rfl ?_
      refine r_get (cn := RX4) (T := TX4) (N := 5) (ci := 4) C uwX4_stands_4 0 rfl rfl 1 (by decide) kwX4_stands_0 (v := .ref (a 1)) rfl dX4_stands_17 ?_
      refine r_iload_n C dX4_stands_20 rfl ?_
      obtain ⟨hi4, h⟩ := h
      refine r_iald C 2 rfl hi4 dX4_stands_21 ?_
      refine r_iconst (v := 4) C dX4_stands_22 (by decide) ?_
      refine r_icmp_eq (tgt := 52) C dX4_stands_23 (by decide) (fun c5 => ?_) (fun c5 => ?_)
      · have h := h.1 c5
        obtain ⟨x6, ex6⟩ : ∃ z : Int32, z = v3 + 1 := ⟨_, rfl⟩
        have h := h x6 ex6
        refine r_iinc (v := x6) (lv' := [(0, .ref (a 50)), (1, .ref (d 50)), (2, .int v2), (3, .int x6)]) C dX4_stands_52 rfl (by rw [ex6]; rfl) [some 0, some 1, some 2, none] (by decide) rfl rfl ?_
        refine r_goto (tgt := 6) C dX4_stands_55 (by decide) ?_
        exact hR x6 G h
      · have h := h.2 c5
        refine r_aload_n C dX4_stands_26 rfl ?_
        refine r_aload_n C dX4_stands_27 rfl ?_
        refine r_get (cn := RX4) (T := TX4) (N := 5) (ci := 4) C uwX4_stands_4 0 rfl rfl 0 (by decide) kwX4_stands_2 (v := .ref (a 0)) rfl dX4_stands_28 ?_
        refine r_iload_n C dX4_stands_31 rfl ?_
        obtain ⟨hi7, h⟩ := h
        obtain ⟨q8, hq9, h⟩ := h
        refine r_aaldS C 1 rfl hi7 hq9 dX4_stands_32 ?_
        refine r_aload_n C dX4_stands_33 rfl ?_
        refine r_get (cn := RX4) (T := TX4) (N := 5) (ci := 4) C uwX4_stands_4 0 rfl rfl 0 (by decide) kwX4_stands_2 (v := .ref (a 0)) rfl dX4_stands_34 ?_
        refine r_iload_n C dX4_stands_37 rfl ?_
        obtain ⟨hi10, h⟩ := h
        obtain ⟨q11, hq12, h⟩ := h
        refine r_aaldS C 1 rfl hi10 hq12 dX4_stands_38 ?_
        refine r_aload_n C dX4_stands_39 rfl ?_
        refine r_get (cn := RX4) (T := TX4) (N := 5) (ci := 4) C uwX4_stands_4 0 rfl rfl 1 (by decide) kwX4_stands_0 (v := .ref (a 1)) rfl dX4_stands_40 ?_
        refine r_iload_n C dX4_stands_43 rfl ?_
        obtain ⟨hi13, h⟩ := h
        refine r_iald C 2 rfl hi13 dX4_stands_44 ?_
        obtain ⟨hq14, h⟩ := h
        refine callR_I C (run_V (As := [.int (Y.2.1 1 v3.toNatClampNeg)]) (rest := [.ref q8, .ref (d 50)]) (ci := 1) C hZ.2.2 (tX1_eased _ g q11 (pf q11) N (Y.2.1 1 v3.toNatClampNeg) _ h) gX4_stands_X1_eased rfl dsX1_eased rfl rfl ⟨(Nat.le_of_ble_eq_true rfl), (Nat.le_of_ble_eq_true rfl)⟩ rfl (List.mem_append_right _ (pl_mem hq14)) rfl (Nat.le_of_ble_eq_true rfl) dX4_stands_45 ⟨Nat.zero_le _, Nat.zero_le _⟩) (slq hq14) (fun _ => rfl) (fun r15 _ h => ?_)
        refine r_iconst (v := 0) C dX4_stands_48 (by decide) ?_
        obtain ⟨hq16, h⟩ := h
        refine callP_V (ws' := fun z => trW g a d Y si z lp pf) C (run_V (As := [.ref q8, .int r15, .int 0]) (rest := []) (ci := 0) C hZ.2.2 (tX0_enter _ g d q8 G (pf q8) N r15 0 _ h) gX4_stands_X0_enter rfl dsX0_enter rfl rfl ⟨(Nat.le_of_ble_eq_true rfl), (Nat.le_of_ble_eq_true rfl)⟩ rfl (List.mem_of_getElem? (i := 4) rfl) rfl (Nat.le_of_ble_eq_true rfl) dX4_stands_49 ⟨Nat.zero_le _, Nat.zero_le _⟩) (tp1q hq16) (fun _ => (tp1q hq16)) (fun G17 h => ?_)
        show St x 0 0 (trW g a d Y si G17 lp pf) _ _ 52
        obtain ⟨x18, ex18⟩ : ∃ z : Int32, z = v3 + 1 := ⟨_, rfl⟩
        have h := h x18 ex18
        refine r_iinc (v := x18) (lv' := [(0, .ref (a 50)), (1, .ref (d 50)), (2, .int v2), (3, .int x18)]) C dX4_stands_52 rfl (by rw [ex18]; rfl) [some 0, some 1, some 2, none] (by decide) rfl rfl ?_
        refine r_goto (tgt := 6) C dX4_stands_55 (by decide) ?_
        exact hR x18 G17 h
def fX4_stands_6 (N : Nat) (Y : RS) (si : Nat → Option Nat) (lp : List Nat) (pf : Nat → RS) (v2 : Int32) (K : RS → Prop) (Q : Int32 → RS → Prop) : Nat → Int32 → RS → Prop
  | 0, _, _ => False
  | n + 1, v3, G => fX4_stands_6b N Y si G lp pf v2 v3 (fun v3 G => fX4_stands_6 N Y si lp pf v2 K Q n v3 G) K Q
set_option maxRecDepth 100000 in
set_option maxHeartbeats 4000000 in
theorem wfX4_stands_6 {x : Nx} {g : Gx} {W0 : va_W} {a : Nat → Nat} {d : Nat → Nat} {Y : RS} {si : Nat → Option Nat} {lp : List Nat} {pf : Nat → RS} {N : Nat} {v2 : Int32} {K : RS → Prop} {Q : Int32 → RS → Prop} (C : Cx x g cX4_stands RX4 wsX4_stands rmX4_stands yX4_stands (some .boolean) 4) (hZ : Zq x g W0 (fun u : RS => trW g a d Y si u lp pf) (qI (fun (r : Int32) (u : RS) => Q r u)) 0 0) (hK : ∀ (G_ : RS), K G_ → St x 0 0 (trW g a d Y si G_ lp pf) [(1, .ref (d 50))] [] 58) : ∀ (n : Nat) (v3 : Int32) (G : RS), fX4_stands_6 N Y si lp pf v2 K Q n v3 G → St x 0 0 (trW g a d Y si G lp pf) [(0, .ref (a 50)), (1, .ref (d 50)), (2, .int v2), (3, .int v3)] [] 6 := by
  intro n
  induction n with
  | zero => intro v3 G h; exact False.elim h
  | succ n ih => intro v3 G h; exact wfX4_stands_6b C hZ ih hK h
def fX4_stands_58 (N : Nat) (Y : RS) (si : Nat → Option Nat) (G : RS) (lp : List Nat) (pf : Nat → RS) (Q : Int32 → RS → Prop) : Prop :=
  (fX0_solve N G 0 (fun  G20 => (fX0_lostIn N G20 0 (fun r21 => ((¬ r21 = 0 → Q 0 G20) ∧ (r21 = 0 → Q 1 G20))))))
set_option maxRecDepth 100000 in
set_option maxHeartbeats 4000000 in
theorem wfX4_stands_58 {x : Nx} {g : Gx} {W0 : va_W} {a : Nat → Nat} {d : Nat → Nat} {Y : RS} {si : Nat → Option Nat} {G : RS} {lp : List Nat} {pf : Nat → RS} {N : Nat} {Q : Int32 → RS → Prop} (C : Cx x g cX4_stands RX4 wsX4_stands rmX4_stands yX4_stands (some .boolean) 4) (hZ : Zq x g W0 (fun u : RS => trW g a d Y si u lp pf) (qI (fun (r : Int32) (u : RS) => Q r u)) 0 0) (h : fX4_stands_58 N Y si G lp pf Q) : St x 0 0 (trW g a d Y si G lp pf) [(1, .ref (d 50))] [] 58 := by
  unfold fX4_stands_58 at h
  refine r_aload_n C dX4_stands_58 rfl ?_
  refine r_iconst (v := 0) C dX4_stands_59 (by decide) ?_
  refine callP_V (ws' := fun z => trW g a d Y si z lp pf) C (run_V (As := [.int 0]) (rest := []) (ci := 0) C hZ.2.2 (tX0_solve _ g d G N 0 _ h) gX4_stands_X0_solve rfl dsX0_solve rfl rfl ⟨(Nat.le_of_ble_eq_true rfl), (Nat.le_of_ble_eq_true rfl)⟩ rfl (List.mem_of_getElem? (i := 4) rfl) rfl (Nat.le_of_ble_eq_true rfl) dX4_stands_60 ⟨Nat.zero_le _, Nat.zero_le _⟩) tp1 (fun _ => tp1) (fun G20 h => ?_)
  show St x 0 0 (trW g a d Y si G20 lp pf) _ _ 63
  refine r_aload_n C dX4_stands_63 rfl ?_
  refine r_iconst (v := 0) C dX4_stands_64 (by decide) ?_
  refine callR_I C (run_V (As := [.int 0]) (rest := []) (ci := 0) C hZ.2.2 (tX0_lostIn _ g d G20 N 0 _ h) gX4_stands_X0_lostIn rfl dsX0_lostIn rfl rfl ⟨(Nat.le_of_ble_eq_true rfl), (Nat.le_of_ble_eq_true rfl)⟩ rfl (List.mem_of_getElem? (i := 4) rfl) rfl (Nat.le_of_ble_eq_true rfl) dX4_stands_65 ⟨Nat.zero_le _, Nat.zero_le _⟩) sl_g (fun _ => rfl) (fun r21 _ h => ?_)
  refine r_if_ne (tgt := 75) C dX4_stands_68 (by decide) (fun c22 => ?_) (fun c22 => ?_)
  · have h := h.1 c22
    refine r_iconst (v := 0) C dX4_stands_75 (by decide) ?_
    exact r_zret C hZ (u := G20) (by decide) h rfl dX4_stands_76
  · have h := h.2 c22
    refine r_iconst (v := 1) C dX4_stands_71 (by decide) ?_
    refine r_goto (tgt := 76) C dX4_stands_72 (by decide) ?_
    exact r_zret C hZ (u := G20) (by decide) h rfl dX4_stands_76
def fX4_stands (N : Nat) (Y : RS) (si : Nat → Option Nat) (G : RS) (lp : List Nat) (pf : Nat → RS) (v2 : Int32) (Q : Int32 → RS → Prop) : Prop :=
  (fX0_begin N G (fun  G1 => (fX4_stands_6 N Y si lp pf v2 (fun G19 => (fX4_stands_58 N Y si G19 lp pf Q)) Q N 0 G1)))
set_option maxRecDepth 100000 in
set_option maxHeartbeats 4000000 in
theorem tX4_stands (l : Launch) (g : Gx) (a : Nat → Nat) (d : Nat → Nat) (Y : RS) (si : Nat → Option Nat) (G : RS) (lp : List Nat) (pf : Nat → RS) (N : Nat) (v2 : Int32) (Q : Int32 → RS → Prop) (h : fX4_stands N Y si G lp pf v2 Q) : MetG l g yX4_stands wsX4_stands rmX4_stands [.ref (a 50), .ref (d 50), .int v2] (trW g a d Y si G lp pf) (fun u : RS => trW g a d Y si u lp pf) (qI (fun (r : Int32) (u : RS) => Q r u)) 0 0 := by
  refine met_of (cc := cX4_stands) (own := RX4) (nL := 4) (ret := (some .boolean)) (lv := [(0, .ref (a 50)), (1, .ref (d 50)), (2, .int v2)]) (by decide) rfl rfl (Nat.le_of_ble_eq_true rfl) rfl ?_
  intro x C hl hZ
  subst hl
  unfold fX4_stands at h
  refine r_aload_n C dX4_stands_0 rfl ?_
  refine callP_V (ws' := fun z => trW g a d Y si z lp pf) C (run_V (As := []) (rest := []) (ci := 0) C hZ.2.2 (tX0_begin _ g d G N _ h) gX4_stands_X0_begin rfl dsX0_begin rfl rfl ⟨(Nat.le_of_ble_eq_true rfl), (Nat.le_of_ble_eq_true rfl)⟩ rfl (List.mem_of_getElem? (i := 4) rfl) rfl (Nat.le_of_ble_eq_true rfl) dX4_stands_1 ⟨Nat.zero_le _, Nat.zero_le _⟩) tp1 (fun _ => tp1) (fun G1 h => ?_)
  show St x 0 0 (trW g a d Y si G1 lp pf) _ _ 4
  refine r_iconst (v := 0) C dX4_stands_4 (by decide) ?_
  refine r_istore_n (lv' := [(0, .ref (a 50)), (1, .ref (d 50)), (2, .int v2), (3, .int 0)]) C dX4_stands_5 [some 0, some 1, some 2, none] (by decide) rfl rfl ?_
  refine wfX4_stands_6 C hZ (fun G19 h => ?_) N _ _ h
  exact wfX4_stands_58 C hZ h
theorem kwX4_settle_0 : Cond.fieldLink RX4 24 "WantsBench$Treaty" "size" "I" ∈ wsX4_settle := by decide +kernel
theorem uwX4_settle_4 : ∀ w ∈ wsX40, w ∈ wsX4_settle := by decide +kernel
theorem kwX4_settle_2 : Cond.fieldLink RX4 17 "WantsBench$Treaty" "terms" "[I" ∈ wsX4_settle := by decide +kernel
theorem kwX4_settle_3 : Cond.fieldLink RX4 21 "WantsBench$Treaty" "best" "[I" ∈ wsX4_settle := by decide +kernel
theorem kwX4_settle_4 : Cond.methodLink RX4 31 arraycopyName ∈ wsX4_settle := by decide +kernel
theorem kwX4_settle_5 : Cond.native arraycopyName ∈ wsX4_settle := by decide +kernel
theorem kwX4_settle_6 : Cond.static arraycopyName ∈ wsX4_settle := by decide +kernel
theorem kwX4_settle_7 : Cond.initialized "java/lang/System" ∈ wsX4_settle := by decide +kernel
theorem kwX4_settle_8 : Cond.fieldLink RX4 28 "WantsBench$Treaty" "bestPrice" "I" ∈ wsX4_settle := by decide +kernel
def fX4_settle_13 (Zoffer : RS → (Nat → Option Nat) → RS → List Nat → (Nat → RS) → Int32 → Int32 → Int32 → (RS → RS → Prop) → Prop) (N : Nat) (Y : RS) (si : Nat → Option Nat) (G : RS) (lp : List Nat) (pf : Nat → RS) (v3 : Int32) (Q : RS → RS → Prop) : Prop :=
  (∀ Y2 : RS, Y2 = sA Y 2 (va_cpy (Y.2.1 1) (Y.2.1 2) 0 0 4) → (∀ Y3 : RS, Y3 = sI Y2 4 v3 → Q Y3 G))
set_option maxRecDepth 100000 in
set_option maxHeartbeats 4000000 in
theorem wfX4_settle_13 {x : Nx} {g : Gx} {W0 : va_W} {a : Nat → Nat} {d : Nat → Nat} {Y : RS} {si : Nat → Option Nat} {G : RS} {lp : List Nat} {pf : Nat → RS} {Zoffer : RS → (Nat → Option Nat) → RS → List Nat → (Nat → RS) → Int32 → Int32 → Int32 → (RS → RS → Prop) → Prop} {N : Nat} {v3 : Int32} {Q : RS → RS → Prop} {rm : Room} (hF : 1 ≤ rm.frames ∧ 40 ≤ rm.locals ∧ rm.cells = 0 ∧ rm.slots = 0) (C : Cx x g cX4_settle RX4 wsX4_settle rm yX4_settle none 5) (hZ : Zq x g W0 (fun u : RS × RS => trW g a d u.1 si u.2 lp pf) (qV (fun u : RS × RS => Q u.1 u.2)) 0 0) {rmZoffer : Room} (hRZoffer : rmZoffer.frames + 1 ≤ rm.frames ∧ 8 + (6 + 11) + rmZoffer.locals ≤ rm.locals) (hzZoffer : rmZoffer.cells = 0 ∧ rmZoffer.slots = 0) (hZoffer : ∀ (Y : RS) (si : Nat → Option Nat) (G : RS) (lp : List Nat) (pf : Nat → RS) (i0 : Int32) (i1 : Int32) (i2 : Int32) (Q : RS → RS → Prop), Zoffer Y si G lp pf i0 i1 i2 Q → MetG (xl x) g yX4_offer wsX4_offer rmZoffer [.ref (a 50), .ref (d 50), .int i0, .int i1, .int i2] (trW g a d Y si G lp pf) (fun u : RS × RS => trW g a d u.1 si u.2 lp pf) (qV (fun u : RS × RS => Q u.1 u.2)) 0 0) (h : fX4_settle_13 Zoffer N Y si G lp pf v3 Q) : St x 0 0 (trW g a d Y si G lp pf) [(0, .ref (a 50)), (3, .int v3)] [] 13 := by
  unfold fX4_settle_13 at h
  refine r_aload_n C dX4_settle_13 rfl ?_
  refine r_get (cn := RX4) (T := TX4) (N := 5) (ci := 4) C uwX4_settle_4 0 rfl rfl 1 (by decide) kwX4_settle_2 (v := .ref (a 1)) rfl dX4_settle_14 ?_
  refine r_iconst (v := 0) C dX4_settle_17 (by decide) ?_
  refine r_aload_n C dX4_settle_18 rfl ?_
  refine r_get (cn := RX4) (T := TX4) (N := 5) (ci := 4) C uwX4_settle_4 0 rfl rfl 2 (by decide) kwX4_settle_3 (v := .ref (a 2)) rfl dX4_settle_19 ?_
  refine r_iconst (v := 0) C dX4_settle_22 (by decide) ?_
  refine r_iconst (v := 4) C dX4_settle_23 (by decide) ?_
  obtain ⟨Y2, hY2⟩ : ∃ z : RS, z = sA Y 2 (va_cpy (Y.2.1 1) (Y.2.1 2) 0 0 4) := ⟨_, rfl⟩
  have h := h Y2 hY2
  refine r_copy4 (ws' := trW g a d Y2 si G lp pf) C kwX4_settle_4 kwX4_settle_5 kwX4_settle_6 kwX4_settle_7 2 3 rfl rfl (Nat.le_trans (Nat.le_of_ble_eq_true rfl) hF.1) (Nat.le_trans (Nat.le_of_ble_eq_true rfl) hF.2.1) dX4_settle_24 (by rw [hY2]; rfl) ?_
  refine r_aload_n C dX4_settle_27 rfl ?_
  refine r_iload_n C dX4_settle_28 rfl ?_
  obtain ⟨Y3, hY3⟩ : ∃ z : RS, z = sI Y2 4 v3 := ⟨_, rfl⟩
  have h := h Y3 hY3
  refine r_put (cn := RX4) (T := TX4) (N := 5) (ci := 4) (ws' := trW g a d Y3 si G lp pf) C uwX4_settle_4 tyX4 tyX4_ok nmX4 0 rfl rfl 4 (by decide) kwX4_settle_8 rfl rfl rfl (Nat.le_of_ble_eq_true rfl) dX4_settle_29 (by rw [hY3]; rfl) ?_
  exact r_vret C hZ (u := (Y3, G)) h rfl dX4_settle_32
def fX4_settle_36b (Zoffer : RS → (Nat → Option Nat) → RS → List Nat → (Nat → RS) → Int32 → Int32 → Int32 → (RS → RS → Prop) → Prop) (N : Nat) (Y : RS) (si : Nat → Option Nat) (G : RS) (lp : List Nat) (pf : Nat → RS) (v2 : Int32) (v3 : Int32) (v4 : Int32) (R : Int32 → RS → RS → Prop) (K : RS → RS → Prop) (Q : RS → RS → Prop) : Prop :=
  ((4 < v4 → K Y G) ∧ (¬ 4 < v4 → (Zoffer Y si G lp pf v2 v4 v3 (fun  Y6 G7 => (∀ x9 : Int32, x9 = v4 + 1 → R x9 Y6 G7)))))
set_option maxRecDepth 100000 in
set_option maxHeartbeats 4000000 in
theorem wfX4_settle_36b {x : Nx} {g : Gx} {W0 : va_W} {a : Nat → Nat} {d : Nat → Nat} {Y : RS} {si : Nat → Option Nat} {G : RS} {lp : List Nat} {pf : Nat → RS} {Zoffer : RS → (Nat → Option Nat) → RS → List Nat → (Nat → RS) → Int32 → Int32 → Int32 → (RS → RS → Prop) → Prop} {N : Nat} {v2 : Int32} {v3 : Int32} {v4 : Int32} {R : Int32 → RS → RS → Prop} {K : RS → RS → Prop} {Q : RS → RS → Prop} {rm : Room} (hF : 1 ≤ rm.frames ∧ 40 ≤ rm.locals ∧ rm.cells = 0 ∧ rm.slots = 0) (C : Cx x g cX4_settle RX4 wsX4_settle rm yX4_settle none 5) (hZ : Zq x g W0 (fun u : RS × RS => trW g a d u.1 si u.2 lp pf) (qV (fun u : RS × RS => Q u.1 u.2)) 0 0) {rmZoffer : Room} (hRZoffer : rmZoffer.frames + 1 ≤ rm.frames ∧ 8 + (6 + 11) + rmZoffer.locals ≤ rm.locals) (hzZoffer : rmZoffer.cells = 0 ∧ rmZoffer.slots = 0) (hZoffer : ∀ (Y : RS) (si : Nat → Option Nat) (G : RS) (lp : List Nat) (pf : Nat → RS) (i0 : Int32) (i1 : Int32) (i2 : Int32) (Q : RS → RS → Prop), Zoffer Y si G lp pf i0 i1 i2 Q → MetG (xl x) g yX4_offer wsX4_offer rmZoffer [.ref (a 50), .ref (d 50), .int i0, .int i1, .int i2] (trW g a d Y si G lp pf) (fun u : RS × RS => trW g a d u.1 si u.2 lp pf) (qV (fun u : RS × RS => Q u.1 u.2)) 0 0) (hR : ∀ (w4 : Int32) (Y_ : RS) (G_ : RS), R w4 Y_ G_ → St x 0 0 (trW g a d Y_ si G_ lp pf) [(0, .ref (a 50)), (1, .ref (d 50)), (2, .int v2), (3, .int v3), (4, .int w4)] [] 36) (hK : ∀ (Y_ : RS) (G_ : RS), K Y_ G_ → St x 0 0 (trW g a d Y_ si G_ lp pf) [] [] 57) (h : fX4_settle_36b Zoffer N Y si G lp pf v2 v3 v4 R K Q) : St x 0 0 (trW g a d Y si G lp pf) [(0, .ref (a 50)), (1, .ref (d 50)), (2, .int v2), (3, .int v3), (4, .int v4)] [] 36 := by
  unfold fX4_settle_36b at h
  refine r_iload C dX4_settle_36 rfl ?_
  refine r_iconst (v := 4) C dX4_settle_38 (by decide) ?_
  refine r_icmp_gt (tgt := 57) C dX4_settle_39 (by decide) (fun c5 => ?_) (fun c5 => ?_)
  · have h := h.1 c5
    refine r_sub [] (lv' := []) rfl ?_
    exact hK Y G h
  · have h := h.2 c5
    refine r_aload_n C dX4_settle_42 rfl ?_
    refine r_aload_n C dX4_settle_43 rfl ?_
    refine r_iload_n C dX4_settle_44 rfl ?_
    refine r_iload C dX4_settle_45 rfl ?_
    refine r_iload_n C dX4_settle_47 rfl ?_
    refine callW_V C (run_V (As := [.ref (d 50), .int v2, .int v4, .int v3]) (rest := []) (ci := 4) C hZ.2.2 (hZoffer Y si G lp pf v2 v4 v3 _ h) gX4_settle_X4_offer rfl dsX4_offer hzZoffer.1 hzZoffer.2 hRZoffer rfl (List.mem_of_getElem? (i := 0) rfl) rfl (Nat.le_of_ble_eq_true rfl) dX4_settle_48 ⟨Nat.zero_le _, Nat.zero_le _⟩) (fun u8 h => ?_)
    obtain ⟨Y6, G7⟩ := u8
    show St x 0 0 (trW g a d Y6 si G7 lp pf) _ _ 51
    obtain ⟨x9, ex9⟩ : ∃ z : Int32, z = v4 + 1 := ⟨_, rfl⟩
    have h := h x9 ex9
    refine r_iinc (v := x9) (lv' := [(0, .ref (a 50)), (1, .ref (d 50)), (2, .int v2), (3, .int v3), (4, .int x9)]) C dX4_settle_51 rfl (by rw [ex9]; rfl) [some 0, some 1, some 2, some 3, none] (by decide) rfl rfl ?_
    refine r_goto (tgt := 36) C dX4_settle_54 (by decide) ?_
    exact hR x9 Y6 G7 h
def fX4_settle_36 (Zoffer : RS → (Nat → Option Nat) → RS → List Nat → (Nat → RS) → Int32 → Int32 → Int32 → (RS → RS → Prop) → Prop) (N : Nat) (si : Nat → Option Nat) (lp : List Nat) (pf : Nat → RS) (v2 : Int32) (v3 : Int32) (K : RS → RS → Prop) (Q : RS → RS → Prop) : Nat → Int32 → RS → RS → Prop
  | 0, _, _, _ => False
  | n + 1, v4, Y, G => fX4_settle_36b Zoffer N Y si G lp pf v2 v3 v4 (fun v4 Y G => fX4_settle_36 Zoffer N si lp pf v2 v3 K Q n v4 Y G) K Q
set_option maxRecDepth 100000 in
set_option maxHeartbeats 4000000 in
theorem wfX4_settle_36 {x : Nx} {g : Gx} {W0 : va_W} {a : Nat → Nat} {d : Nat → Nat} {si : Nat → Option Nat} {lp : List Nat} {pf : Nat → RS} {Zoffer : RS → (Nat → Option Nat) → RS → List Nat → (Nat → RS) → Int32 → Int32 → Int32 → (RS → RS → Prop) → Prop} {N : Nat} {v2 : Int32} {v3 : Int32} {K : RS → RS → Prop} {Q : RS → RS → Prop} {rm : Room} (hF : 1 ≤ rm.frames ∧ 40 ≤ rm.locals ∧ rm.cells = 0 ∧ rm.slots = 0) (C : Cx x g cX4_settle RX4 wsX4_settle rm yX4_settle none 5) (hZ : Zq x g W0 (fun u : RS × RS => trW g a d u.1 si u.2 lp pf) (qV (fun u : RS × RS => Q u.1 u.2)) 0 0) {rmZoffer : Room} (hRZoffer : rmZoffer.frames + 1 ≤ rm.frames ∧ 8 + (6 + 11) + rmZoffer.locals ≤ rm.locals) (hzZoffer : rmZoffer.cells = 0 ∧ rmZoffer.slots = 0) (hZoffer : ∀ (Y : RS) (si : Nat → Option Nat) (G : RS) (lp : List Nat) (pf : Nat → RS) (i0 : Int32) (i1 : Int32) (i2 : Int32) (Q : RS → RS → Prop), Zoffer Y si G lp pf i0 i1 i2 Q → MetG (xl x) g yX4_offer wsX4_offer rmZoffer [.ref (a 50), .ref (d 50), .int i0, .int i1, .int i2] (trW g a d Y si G lp pf) (fun u : RS × RS => trW g a d u.1 si u.2 lp pf) (qV (fun u : RS × RS => Q u.1 u.2)) 0 0) (hK : ∀ (Y_ : RS) (G_ : RS), K Y_ G_ → St x 0 0 (trW g a d Y_ si G_ lp pf) [] [] 57) : ∀ (n : Nat) (v4 : Int32) (Y : RS) (G : RS), fX4_settle_36 Zoffer N si lp pf v2 v3 K Q n v4 Y G → St x 0 0 (trW g a d Y si G lp pf) [(0, .ref (a 50)), (1, .ref (d 50)), (2, .int v2), (3, .int v3), (4, .int v4)] [] 36 := by
  intro n
  induction n with
  | zero => intro v4 Y G h; exact False.elim h
  | succ n ih => intro v4 Y G h; exact wfX4_settle_36b hF C hZ hRZoffer hzZoffer hZoffer ih hK h
def bX4_settle (Zoffer : RS → (Nat → Option Nat) → RS → List Nat → (Nat → RS) → Int32 → Int32 → Int32 → (RS → RS → Prop) → Prop) (N : Nat) (Y : RS) (si : Nat → Option Nat) (G : RS) (lp : List Nat) (pf : Nat → RS) (v2 : Int32) (v3 : Int32) (Q : RS → RS → Prop) : Prop :=
  (((Y.1 3) ≤ v2 → (fX4_settle_13 Zoffer N Y si G lp pf v3 Q)) ∧ (¬ (Y.1 3) ≤ v2 → ((v2 < 4 → (fX4_settle_36 Zoffer N si lp pf v2 v3 (fun Y10 G11 => Q Y10 G11) Q N 0 Y G)) ∧ (¬ v2 < 4 → (fX4_settle_13 Zoffer N Y si G lp pf v3 Q)))))
set_option maxRecDepth 100000 in
set_option maxHeartbeats 4000000 in
theorem tbX4_settle (l : Launch) (g : Gx) (a : Nat → Nat) (d : Nat → Nat) (Y : RS) (si : Nat → Option Nat) (G : RS) (lp : List Nat) (pf : Nat → RS) {Zoffer : RS → (Nat → Option Nat) → RS → List Nat → (Nat → RS) → Int32 → Int32 → Int32 → (RS → RS → Prop) → Prop} (N : Nat) (v2 : Int32) (v3 : Int32) (Q : RS → RS → Prop) {rm : Room} (hF : 1 ≤ rm.frames ∧ 40 ≤ rm.locals ∧ rm.cells = 0 ∧ rm.slots = 0) {rmZoffer : Room} (hRZoffer : rmZoffer.frames + 1 ≤ rm.frames ∧ 8 + (6 + 11) + rmZoffer.locals ≤ rm.locals) (hzZoffer : rmZoffer.cells = 0 ∧ rmZoffer.slots = 0) (hZoffer : ∀ (Y : RS) (si : Nat → Option Nat) (G : RS) (lp : List Nat) (pf : Nat → RS) (i0 : Int32) (i1 : Int32) (i2 : Int32) (Q : RS → RS → Prop), Zoffer Y si G lp pf i0 i1 i2 Q → MetG l g yX4_offer wsX4_offer rmZoffer [.ref (a 50), .ref (d 50), .int i0, .int i1, .int i2] (trW g a d Y si G lp pf) (fun u : RS × RS => trW g a d u.1 si u.2 lp pf) (qV (fun u : RS × RS => Q u.1 u.2)) 0 0) (h : bX4_settle Zoffer N Y si G lp pf v2 v3 Q) : MetG l g yX4_settle wsX4_settle rm [.ref (a 50), .ref (d 50), .int v2, .int v3] (trW g a d Y si G lp pf) (fun u : RS × RS => trW g a d u.1 si u.2 lp pf) (qV (fun u : RS × RS => Q u.1 u.2)) 0 0 := by
  refine met_of (cc := cX4_settle) (own := RX4) (nL := 5) (ret := none) (lv := [(0, .ref (a 50)), (1, .ref (d 50)), (2, .int v2), (3, .int v3)]) (by decide) rfl rfl (Nat.le_of_ble_eq_true rfl) rfl ?_
  intro x C hl hZ
  subst hl
  unfold bX4_settle at h
  refine r_iload_n C dX4_settle_0 rfl ?_
  refine r_aload_n C dX4_settle_1 rfl ?_
  refine r_get (cn := RX4) (T := TX4) (N := 5) (ci := 4) C uwX4_settle_4 0 rfl rfl 3 (by decide) kwX4_settle_0 (v := .int (Y.1 3)) rfl dX4_settle_2 ?_
  refine r_icmp_ge (tgt := 13) C dX4_settle_5 (by decide) (fun c1 => ?_) (fun c1 => ?_)
  · have h := h.1 c1
    refine r_sub [0, 3] (lv' := [(0, .ref (a 50)), (3, .int v3)]) rfl ?_
    exact wfX4_settle_13 hF C hZ hRZoffer hzZoffer hZoffer h
  · have h := h.2 c1
    refine r_iload_n C dX4_settle_8 rfl ?_
    refine r_iconst (v := 4) C dX4_settle_9 (by decide) ?_
    refine r_icmp_lt (tgt := 33) C dX4_settle_10 (by decide) (fun c4 => ?_) (fun c4 => ?_)
    · have h := h.1 c4
      refine r_iconst (v := 0) C dX4_settle_33 (by decide) ?_
      refine r_istore (lv' := [(0, .ref (a 50)), (1, .ref (d 50)), (2, .int v2), (3, .int v3), (4, .int 0)]) C dX4_settle_34 [some 0, some 1, some 2, some 3, none] (by decide) rfl rfl ?_
      refine wfX4_settle_36 hF C hZ hRZoffer hzZoffer hZoffer (fun Y10 G11 h => ?_) N _ _ _ h
      exact r_vret C hZ (u := (Y10, G11)) h rfl dX4_settle_57
    · have h := h.2 c4
      refine r_sub [0, 3] (lv' := [(0, .ref (a 50)), (3, .int v3)]) rfl ?_
      exact wfX4_settle_13 hF C hZ hRZoffer hzZoffer hZoffer h
theorem kwX4_offer_0 : Cond.fieldLink RX4 13 "WantsBench$Treaty" "sides" "[LWantsBench$Law;" ∈ wsX4_offer := by decide +kernel
theorem uwX4_offer_4 : ∀ w ∈ wsX40, w ∈ wsX4_offer := by decide +kernel
theorem kwX4_offer_2 : Cond.fieldLink RX4 28 "WantsBench$Treaty" "bestPrice" "I" ∈ wsX4_offer := by decide +kernel
theorem kwX4_offer_3 : Cond.fieldLink RX4 17 "WantsBench$Treaty" "terms" "[I" ∈ wsX4_offer := by decide +kernel
def fX4_offer_61 (Zsettle : RS → (Nat → Option Nat) → RS → List Nat → (Nat → RS) → Int32 → Int32 → (RS → RS → Prop) → Prop) (N : Nat) (Y : RS) (si : Nat → Option Nat) (G : RS) (lp : List Nat) (pf : Nat → RS) (v2 : Int32) (v5 : Int32) (Q : RS → RS → Prop) : Prop :=
  (Zsettle Y si G lp pf (v2 + (1 : Int32)) v5 (fun  Y17 G18 => Q Y17 G18))
set_option maxRecDepth 100000 in
set_option maxHeartbeats 4000000 in
theorem wfX4_offer_61 {x : Nx} {g : Gx} {W0 : va_W} {a : Nat → Nat} {d : Nat → Nat} {Y : RS} {si : Nat → Option Nat} {G : RS} {lp : List Nat} {pf : Nat → RS} {Zsettle : RS → (Nat → Option Nat) → RS → List Nat → (Nat → RS) → Int32 → Int32 → (RS → RS → Prop) → Prop} {N : Nat} {v2 : Int32} {v5 : Int32} {Q : RS → RS → Prop} {rm : Room} (hF : 5 ≤ rm.frames ∧ 131 ≤ rm.locals ∧ rm.cells = 0 ∧ rm.slots = 0) (C : Cx x g cX4_offer RX4 wsX4_offer rm yX4_offer none 6) (hZ : Zq x g W0 (fun u : RS × RS => trW g a d u.1 si u.2 lp pf) (qV (fun u : RS × RS => Q u.1 u.2)) 0 0) {rmZsettle : Room} (hRZsettle : rmZsettle.frames + 1 ≤ rm.frames ∧ 8 + (5 + 11) + rmZsettle.locals ≤ rm.locals) (hzZsettle : rmZsettle.cells = 0 ∧ rmZsettle.slots = 0) (hZsettle : ∀ (Y : RS) (si : Nat → Option Nat) (G : RS) (lp : List Nat) (pf : Nat → RS) (i0 : Int32) (i1 : Int32) (Q : RS → RS → Prop), Zsettle Y si G lp pf i0 i1 Q → MetG (xl x) g yX4_settle wsX4_settle rmZsettle [.ref (a 50), .ref (d 50), .int i0, .int i1] (trW g a d Y si G lp pf) (fun u : RS × RS => trW g a d u.1 si u.2 lp pf) (qV (fun u : RS × RS => Q u.1 u.2)) 0 0) (h : fX4_offer_61 Zsettle N Y si G lp pf v2 v5 Q) : St x 0 0 (trW g a d Y si G lp pf) [(0, .ref (a 50)), (1, .ref (d 50)), (2, .int v2), (5, .int v5)] [] 61 := by
  unfold fX4_offer_61 at h
  refine r_aload_n C dX4_offer_61 rfl ?_
  refine r_aload_n C dX4_offer_62 rfl ?_
  refine r_iload_n C dX4_offer_63 rfl ?_
  refine r_iconst (v := 1) C dX4_offer_64 (by decide) ?_
  refine r_iadd C dX4_offer_65 ?_
  refine r_iload C dX4_offer_66 rfl ?_
  refine callW_V C (run_V (As := [.ref (d 50), .int (v2 + (1 : Int32)), .int v5]) (rest := []) (ci := 4) C hZ.2.2 (hZsettle Y si G lp pf (v2 + (1 : Int32)) v5 _ h) gX4_offer_X4_settle rfl dsX4_settle hzZsettle.1 hzZsettle.2 hRZsettle rfl (List.mem_of_getElem? (i := 0) rfl) rfl (Nat.le_of_ble_eq_true rfl) dX4_offer_68 ⟨Nat.zero_le _, Nat.zero_le _⟩) (fun u19 h => ?_)
  obtain ⟨Y17, G18⟩ := u19
  show St x 0 0 (trW g a d Y17 si G18 lp pf) _ _ 71
  exact r_vret C hZ (u := (Y17, G18)) h rfl dX4_offer_71
def bX4_offer (Zsettle : RS → (Nat → Option Nat) → RS → List Nat → (Nat → RS) → Int32 → Int32 → (RS → RS → Prop) → Prop) (N : Nat) (Y : RS) (si : Nat → Option Nat) (G : RS) (lp : List Nat) (pf : Nat → RS) (v2 : Int32) (v3 : Int32) (v4 : Int32) (Q : RS → RS → Prop) : Prop :=
  (vp_in v2 4 ∧ (∃ q2 : Nat, si v2.toNatClampNeg = some q2 ∧ (q2 ∈ lp ∧ (fX1_priceOf N (pf q2) v3 (fun r5 => (∀ x6 : Int32, x6 = v4 + r5 → (((Y.1 4) ≤ x6 → Q Y G) ∧ (¬ (Y.1 4) ≤ x6 → (vp_in v2 4 ∧ (∃ q9 : Nat, si v2.toNatClampNeg = some q9 ∧ (q9 ∈ lp ∧ (fX1_allows N (pf q9) v3 (fun r12 => ((¬ r12 = 0 → (vp_in v2 4 ∧ (∀ Y15 : RS, Y15 = sA Y 1 (upd (Y.2.1 1) v2.toNatClampNeg v3) → ((v3 = 4 → (fX4_offer_61 Zsettle N Y15 si G lp pf v2 x6 Q)) ∧ (¬ v3 = 4 → (fX4_stands N Y15 si G lp pf (v2 + (1 : Int32)) (fun r20 G21 => ((r20 = 0 → Q Y15 G21) ∧ (¬ r20 = 0 → (fX4_offer_61 Zsettle N Y15 si G21 lp pf v2 x6 Q)))))))))) ∧ (r12 = 0 → Q Y G)))))))))))))))
set_option maxRecDepth 100000 in
set_option maxHeartbeats 4000000 in
theorem tbX4_offer (l : Launch) (g : Gx) (a : Nat → Nat) (d : Nat → Nat) (Y : RS) (si : Nat → Option Nat) (G : RS) (lp : List Nat) (pf : Nat → RS) {Zsettle : RS → (Nat → Option Nat) → RS → List Nat → (Nat → RS) → Int32 → Int32 → (RS → RS → Prop) → Prop} (N : Nat) (v2 : Int32) (v3 : Int32) (v4 : Int32) (Q : RS → RS → Prop) {rm : Room} (hF : 5 ≤ rm.frames ∧ 131 ≤ rm.locals ∧ rm.cells = 0 ∧ rm.slots = 0) {rmZsettle : Room} (hRZsettle : rmZsettle.frames + 1 ≤ rm.frames ∧ 8 + (5 + 11) + rmZsettle.locals ≤ rm.locals) (hzZsettle : rmZsettle.cells = 0 ∧ rmZsettle.slots = 0) (hZsettle : ∀ (Y : RS) (si : Nat → Option Nat) (G : RS) (lp : List Nat) (pf : Nat → RS) (i0 : Int32) (i1 : Int32) (Q : RS → RS → Prop), Zsettle Y si G lp pf i0 i1 Q → MetG l g yX4_settle wsX4_settle rmZsettle [.ref (a 50), .ref (d 50), .int i0, .int i1] (trW g a d Y si G lp pf) (fun u : RS × RS => trW g a d u.1 si u.2 lp pf) (qV (fun u : RS × RS => Q u.1 u.2)) 0 0) (h : bX4_offer Zsettle N Y si G lp pf v2 v3 v4 Q) : MetG l g yX4_offer wsX4_offer rm [.ref (a 50), .ref (d 50), .int v2, .int v3, .int v4] (trW g a d Y si G lp pf) (fun u : RS × RS => trW g a d u.1 si u.2 lp pf) (qV (fun u : RS × RS => Q u.1 u.2)) 0 0 := by
  refine met_of (cc := cX4_offer) (own := RX4) (nL := 6) (ret := none) (lv := [(0, .ref (a 50)), (1, .ref (d 50)), (2, .int v2), (3, .int v3), (4, .int v4)]) (by decide) rfl rfl (Nat.le_of_ble_eq_true rfl) rfl ?_
  intro x C hl hZ
  subst hl
  unfold bX4_offer at h
  refine r_iload C dX4_offer_0 rfl ?_
  refine r_aload_n C dX4_offer_2 rfl ?_
  refine r_get (cn := RX4) (T := TX4) (N := 5) (ci := 4) C uwX4_offer_4 0 rfl rfl 0 (by decide) kwX4_offer_0 (v := .ref (a 0)) rfl dX4_offer_3 ?_
  refine r_iload_n C dX4_offer_6 rfl ?_
  obtain ⟨hi1, h⟩ := h
  obtain ⟨q2, hq3, h⟩ := h
  refine r_aaldS C 1 rfl hi1 hq3 dX4_offer_7 ?_
  refine r_iload_n C dX4_offer_8 rfl ?_
  obtain ⟨hq4, h⟩ := h
  refine callR_I C (run_V (As := [.int v3]) (rest := [.int v4]) (ci := 1) C hZ.2.2 (tX1_priceOf _ g q2 (pf q2) N v3 _ h) gX4_offer_X1_priceOf rfl dsX1_priceOf rfl rfl ⟨Nat.le_trans (Nat.le_of_ble_eq_true rfl) hF.1, Nat.le_trans (Nat.le_of_ble_eq_true rfl) hF.2.1⟩ rfl (List.mem_append_right _ (pl_mem hq4)) rfl (Nat.le_of_ble_eq_true rfl) dX4_offer_9 ⟨Nat.zero_le _, Nat.zero_le _⟩) (slq hq4) (fun _ => rfl) (fun r5 _ h => ?_)
  refine r_iadd C dX4_offer_12 ?_
  refine r_topi (fun x6 ex6 => ?_)
  have h := h x6 ex6
  refine r_istore (lv' := [(0, .ref (a 50)), (1, .ref (d 50)), (2, .int v2), (3, .int v3), (5, .int x6)]) C dX4_offer_13 [some 0, some 1, some 2, some 3, none] (by decide) rfl rfl ?_
  refine r_iload C dX4_offer_15 rfl ?_
  refine r_aload_n C dX4_offer_17 rfl ?_
  refine r_get (cn := RX4) (T := TX4) (N := 5) (ci := 4) C uwX4_offer_4 0 rfl rfl 4 (by decide) kwX4_offer_2 (v := .int (Y.1 4)) rfl dX4_offer_18 ?_
  refine r_icmp_ge (tgt := 37) C dX4_offer_21 (by decide) (fun c7 => ?_) (fun c7 => ?_)
  · have h := h.1 c7
    exact r_vret C hZ (u := (Y, G)) h rfl dX4_offer_37
  · have h := h.2 c7
    refine r_aload_n C dX4_offer_24 rfl ?_
    refine r_get (cn := RX4) (T := TX4) (N := 5) (ci := 4) C uwX4_offer_4 0 rfl rfl 0 (by decide) kwX4_offer_0 (v := .ref (a 0)) rfl dX4_offer_25 ?_
    refine r_iload_n C dX4_offer_28 rfl ?_
    obtain ⟨hi8, h⟩ := h
    obtain ⟨q9, hq10, h⟩ := h
    refine r_aaldS C 1 rfl hi8 hq10 dX4_offer_29 ?_
    refine r_iload_n C dX4_offer_30 rfl ?_
    obtain ⟨hq11, h⟩ := h
    refine callR_I C (run_V (As := [.int v3]) (rest := []) (ci := 1) C hZ.2.2 (tX1_allows _ g q9 (pf q9) N v3 _ h) gX4_offer_X1_allows rfl dsX1_allows rfl rfl ⟨Nat.le_trans (Nat.le_of_ble_eq_true rfl) hF.1, Nat.le_trans (Nat.le_of_ble_eq_true rfl) hF.2.1⟩ rfl (List.mem_append_right _ (pl_mem hq11)) rfl (Nat.le_of_ble_eq_true rfl) dX4_offer_31 ⟨Nat.zero_le _, Nat.zero_le _⟩) (slq hq11) (fun _ => rfl) (fun r12 _ h => ?_)
    refine r_if_ne (tgt := 38) C dX4_offer_34 (by decide) (fun c13 => ?_) (fun c13 => ?_)
    · have h := h.1 c13
      refine r_aload_n C dX4_offer_38 rfl ?_
      refine r_get (cn := RX4) (T := TX4) (N := 5) (ci := 4) C uwX4_offer_4 0 rfl rfl 1 (by decide) kwX4_offer_3 (v := .ref (a 1)) rfl dX4_offer_39 ?_
      refine r_iload_n C dX4_offer_42 rfl ?_
      refine r_iload_n C dX4_offer_43 rfl ?_
      obtain ⟨hi14, h⟩ := h
      obtain ⟨Y15, hY15⟩ : ∃ z : RS, z = sA Y 1 (upd (Y.2.1 1) v2.toNatClampNeg v3) := ⟨_, rfl⟩
      have h := h Y15 hY15
      refine r_iast (ws' := trW g a d Y15 si G lp pf) C 2 rfl hi14 dX4_offer_44 (by rw [hY15]; rfl) ?_
      refine r_iload_n C dX4_offer_45 rfl ?_
      refine r_iconst (v := 4) C dX4_offer_46 (by decide) ?_
      refine r_icmp_eq (tgt := 61) C dX4_offer_47 (by decide) (fun c16 => ?_) (fun c16 => ?_)
      · have h := h.1 c16
        refine r_sub [0, 1, 2, 4] (lv' := [(0, .ref (a 50)), (1, .ref (d 50)), (2, .int v2), (5, .int x6)]) rfl ?_
        exact wfX4_offer_61 hF C hZ hRZsettle hzZsettle hZsettle h
      · have h := h.2 c16
        refine r_aload_n C dX4_offer_50 rfl ?_
        refine r_aload_n C dX4_offer_51 rfl ?_
        refine r_iload_n C dX4_offer_52 rfl ?_
        refine r_iconst (v := 1) C dX4_offer_53 (by decide) ?_
        refine r_iadd C dX4_offer_54 ?_
        refine callW_I C (run_V (As := [.ref (d 50), .int (v2 + (1 : Int32))]) (rest := []) (ci := 4) C hZ.2.2 (tX4_stands _ g a d Y15 si G lp pf N (v2 + (1 : Int32)) _ h) gX4_offer_X4_stands rfl dsX4_stands rfl rfl ⟨Nat.le_trans (Nat.le_of_ble_eq_true rfl) hF.1, Nat.le_trans (Nat.le_of_ble_eq_true rfl) hF.2.1⟩ rfl (List.mem_of_getElem? (i := 0) rfl) rfl (Nat.le_of_ble_eq_true rfl) dX4_offer_55 ⟨Nat.zero_le _, Nat.zero_le _⟩) (fun r20 G21 h => ?_)
        show St x 0 0 (trW g a d Y15 si G21 lp pf) _ _ 58
        refine r_if_eq (tgt := 71) C dX4_offer_58 (by decide) (fun c22 => ?_) (fun c22 => ?_)
        · have h := h.1 c22
          exact r_vret C hZ (u := (Y15, G21)) h rfl dX4_offer_71
        · have h := h.2 c22
          refine r_sub [0, 1, 2, 4] (lv' := [(0, .ref (a 50)), (1, .ref (d 50)), (2, .int v2), (5, .int x6)]) rfl ?_
          exact wfX4_offer_61 hF C hZ hRZsettle hzZsettle hZsettle h
    · have h := h.2 c13
      exact r_vret C hZ (u := (Y, G)) h rfl dX4_offer_37
def gX4 (N : Nat) : Nat → Nat → RS → (Nat → Option Nat) → RS → List Nat → (Nat → RS) → Int32 → Int32 → Int32 → (RS → RS → Prop) → Prop
  | 0, _, _, _, _, _, _, _, _, _, _ => False
  | dn + 1, 0, Y, si, G, lp, pf, i0, i1, i2, Q => bX4_settle (gX4 N dn 1) N Y si G lp pf i0 i2 Q
  | dn + 1, _ + 1, Y, si, G, lp, pf, i0, i1, i2, Q => bX4_offer (fun Y_ si_ G_ lp_ pf_ z0 z1 Q_ => gX4 N dn 0 Y_ si_ G_ lp_ pf_ z0 0 z1 Q_) N Y si G lp pf i0 i1 i2 Q
set_option maxRecDepth 100000 in
set_option maxHeartbeats 4000000 in
theorem gX4_met (l : Launch) (g : Gx) (a : Nat → Nat) (d : Nat → Nat) (N : Nat) : ∀ dn : Nat, (∀ (Y : RS) (si : Nat → Option Nat) (G : RS) (lp : List Nat) (pf : Nat → RS) (v2 : Int32) (v3 : Int32) (Q : RS → RS → Prop), gX4 N dn 0 Y si G lp pf v2 0 v3 Q → MetG l g yX4_settle wsX4_settle (rmR dn) [.ref (a 50), .ref (d 50), .int v2, .int v3] (trW g a d Y si G lp pf) (fun u : RS × RS => trW g a d u.1 si u.2 lp pf) (qV (fun u : RS × RS => Q u.1 u.2)) 0 0) ∧ (∀ (Y : RS) (si : Nat → Option Nat) (G : RS) (lp : List Nat) (pf : Nat → RS) (v2 : Int32) (v3 : Int32) (v4 : Int32) (Q : RS → RS → Prop), gX4 N dn 1 Y si G lp pf v2 v3 v4 Q → MetG l g yX4_offer wsX4_offer (rmR dn) [.ref (a 50), .ref (d 50), .int v2, .int v3, .int v4] (trW g a d Y si G lp pf) (fun u : RS × RS => trW g a d u.1 si u.2 lp pf) (qV (fun u : RS × RS => Q u.1 u.2)) 0 0) := by
  intro dn
  induction dn with
  | zero => exact ⟨fun _ _ _ _ _ _ _ _ h => False.elim h, fun _ _ _ _ _ _ _ _ _ h => False.elim h⟩
  | succ dn ih => exact ⟨fun Y si G lp pf v2 v3 Q h => tbX4_settle l g a d Y si G lp pf N v2 v3 Q (Zoffer := (gX4 N dn 1)) (rmR_F (dn + 1) 1 40 (by decide) (by decide)) (rmR_ok dn 6 (by decide)) ⟨rfl, rfl⟩ (fun Y si G lp pf v2 v3 v4 Q h => ih.2 Y si G lp pf v2 v3 v4 Q h) h,
      fun Y si G lp pf v2 v3 v4 Q h => tbX4_offer l g a d Y si G lp pf N v2 v3 v4 Q (Zsettle := (fun Y_ si_ G_ lp_ pf_ z0 z1 Q_ => gX4 N dn 0 Y_ si_ G_ lp_ pf_ z0 0 z1 Q_)) (rmR_F (dn + 1) 5 131 (by decide) (by decide)) (rmR_ok dn 5 (by decide)) ⟨rfl, rfl⟩ (fun Y si G lp pf v2 v3 Q h => ih.1 Y si G lp pf v2 v3 Q h) h⟩
def fX4_settle (N : Nat) (Y : RS) (si : Nat → Option Nat) (G : RS) (lp : List Nat) (pf : Nat → RS) (v2 : Int32) (v3 : Int32) (Q : RS → RS → Prop) : Prop := gX4 N 12 0 Y si G lp pf v2 0 v3 Q
def rmX4_settle : Room := rmR 12
theorem tX4_settle (l : Launch) (g : Gx) (a : Nat → Nat) (d : Nat → Nat) (Y : RS) (si : Nat → Option Nat) (G : RS) (lp : List Nat) (pf : Nat → RS) (N : Nat) (v2 : Int32) (v3 : Int32) (Q : RS → RS → Prop) (h : fX4_settle N Y si G lp pf v2 v3 Q) : MetG l g yX4_settle wsX4_settle rmX4_settle [.ref (a 50), .ref (d 50), .int v2, .int v3] (trW g a d Y si G lp pf) (fun u : RS × RS => trW g a d u.1 si u.2 lp pf) (qV (fun u : RS × RS => Q u.1 u.2)) 0 0 := (gX4_met l g a d N 12).1 Y si G lp pf v2 v3 Q h
def fX4_offer (N : Nat) (Y : RS) (si : Nat → Option Nat) (G : RS) (lp : List Nat) (pf : Nat → RS) (v2 : Int32) (v3 : Int32) (v4 : Int32) (Q : RS → RS → Prop) : Prop := gX4 N 12 1 Y si G lp pf v2 v3 v4 Q
def rmX4_offer : Room := rmR 12
theorem tX4_offer (l : Launch) (g : Gx) (a : Nat → Nat) (d : Nat → Nat) (Y : RS) (si : Nat → Option Nat) (G : RS) (lp : List Nat) (pf : Nat → RS) (N : Nat) (v2 : Int32) (v3 : Int32) (v4 : Int32) (Q : RS → RS → Prop) (h : fX4_offer N Y si G lp pf v2 v3 v4 Q) : MetG l g yX4_offer wsX4_offer rmX4_offer [.ref (a 50), .ref (d 50), .int v2, .int v3, .int v4] (trW g a d Y si G lp pf) (fun u : RS × RS => trW g a d u.1 si u.2 lp pf) (qV (fun u : RS × RS => Q u.1 u.2)) 0 0 := (gX4_met l g a d N 12).2 Y si G lp pf v2 v3 v4 Q h
def rmX5_today : Room := { frames := 0, cells := 0, slots := 0, locals := 0 }
theorem kwX5_today_0 : Cond.fieldLink RX5 50 "WantsBench" "day" "I" ∈ wsX5_today := by decide +kernel
theorem uwX5_today_5 : ∀ w ∈ wsX50, w ∈ wsX5_today := by decide +kernel
def fX5_today (N : Nat) (sb : RS) (v1 : Int32) (Q : Int32 → RS → Prop) : Prop :=
  ((v1 < (sb.1 3) → Q (-1) sb) ∧ (¬ v1 < (sb.1 3) → ((v1 ≤ 9999 → (∀ x3 : Int32, x3 = sb.1 3 → (∀ sb4 : RS, sb4 = sI sb 3 v1 → Q x3 sb4))) ∧ (¬ v1 ≤ 9999 → Q (-1) sb))))
set_option maxRecDepth 100000 in
set_option maxHeartbeats 4000000 in
theorem tX5_today (l : Launch) (g : Gx) (a : Nat → Nat → Nat) (sb : RS) (lw : Nat → Option Nat) (st : RS) (sp : RS) (sd : RS) (ss : RS) (sy : RS) (si : Nat → Option Nat) (lp : List Nat) (pf : Nat → RS) (N : Nat) (v1 : Int32) (Q : Int32 → RS → Prop) (h : fX5_today N sb v1 Q) : MetG l g yX5_today wsX5_today rmX5_today [.ref ((a 0) 50), .int v1] (sysW g a sb lw st sp sd ss sy si lp pf) (fun u : RS => sysW g a u lw st sp sd ss sy si lp pf) (qI (fun (r : Int32) (u : RS) => Q r u)) 0 0 := by
  refine met_of (cc := cX5_today) (own := RX5) (nL := 3) (ret := (some .int)) (lv := [(0, .ref ((a 0) 50)), (1, .int v1)]) (by decide) rfl rfl (Nat.le_of_ble_eq_true rfl) rfl ?_
  intro x C hl hZ
  subst hl
  unfold fX5_today at h
  refine r_iload_n C dX5_today_0 rfl ?_
  refine r_aload_n C dX5_today_1 rfl ?_
  refine r_get (cn := RX5) (T := TX5) (N := 13) (ci := 5) C uwX5_today_5 0 rfl rfl 3 (by decide) kwX5_today_0 (v := .int (sb.1 3)) rfl dX5_today_2 ?_
  refine r_icmp_lt (tgt := 15) C dX5_today_5 (by decide) (fun c1 => ?_) (fun c1 => ?_)
  · have h := h.1 c1
    refine r_iconst (v := (-1)) C dX5_today_15 (by decide) ?_
    exact r_iret C hZ (u := sb) h rfl dX5_today_16
  · have h := h.2 c1
    refine r_iload_n C dX5_today_8 rfl ?_
    refine r_sipush (v := 9999) C dX5_today_9 (by decide) ?_
    refine r_icmp_le (tgt := 17) C dX5_today_12 (by decide) (fun c2 => ?_) (fun c2 => ?_)
    · have h := h.1 c2
      refine r_aload_n C dX5_today_17 rfl ?_
      refine r_get (cn := RX5) (T := TX5) (N := 13) (ci := 5) C uwX5_today_5 0 rfl rfl 3 (by decide) kwX5_today_0 (v := .int (sb.1 3)) rfl dX5_today_18 ?_
      refine r_topi (fun x3 ex3 => ?_)
      have h := h x3 ex3
      refine r_istore_n (lv' := [(0, .ref ((a 0) 50)), (1, .int v1), (2, .int x3)]) C dX5_today_21 [some 0, some 1, none] (by decide) rfl rfl ?_
      refine r_aload_n C dX5_today_22 rfl ?_
      refine r_iload_n C dX5_today_23 rfl ?_
      obtain ⟨sb4, hsb4⟩ : ∃ z : RS, z = sI sb 3 v1 := ⟨_, rfl⟩
      have h := h sb4 hsb4
      refine r_put (cn := RX5) (T := TX5) (N := 13) (ci := 5) (ws' := sysW g a sb4 lw st sp sd ss sy si lp pf) C uwX5_today_5 tyX5 tyX5_ok nmX5 0 rfl rfl 3 (by decide) kwX5_today_0 rfl rfl rfl (Nat.le_of_ble_eq_true rfl) dX5_today_24 (by rw [hsb4]; rfl) ?_
      refine r_iload_n C dX5_today_27 rfl ?_
      exact r_iret C hZ (u := sb4) h rfl dX5_today_28
    · have h := h.2 c2
      refine r_iconst (v := (-1)) C dX5_today_15 (by decide) ?_
      exact r_iret C hZ (u := sb) h rfl dX5_today_16
def rmX5_feed : Room := { frames := 1, cells := 0, slots := 0, locals := 23 }
theorem kwX5_feed_0 : Cond.fieldLink RX5 10 "WantsBench" "tape" "LWantsBench$Tape;" ∈ wsX5_feed := by decide +kernel
theorem uwX5_feed_5 : ∀ w ∈ wsX50, w ∈ wsX5_feed := by decide +kernel
theorem kwX5_feed_2 : Cond.fieldLink RX5 58 "WantsBench$Tape" "length" "I" ∈ wsX5_feed := by decide +kernel
theorem uwX5_feed_3 : ∀ w ∈ wsX30, w ∈ wsX5_feed := by decide +kernel
def fX5_feed (N : Nat) (st : RS) (v1 : Int32) (v2 : Int32) (Q : Int32 → RS → Prop) : Prop :=
  ((v1 < 1 → Q (-1) st) ∧ (¬ v1 < 1 → ((v1 ≤ 4 → (fX3_take N st v1 v2 (fun r3 st4 => ((r3 = 0 → Q (-2) st4) ∧ (¬ r3 = 0 → Q (st4.1 1) st4))))) ∧ (¬ v1 ≤ 4 → Q (-1) st))))
set_option maxRecDepth 100000 in
set_option maxHeartbeats 4000000 in
theorem tX5_feed (l : Launch) (g : Gx) (a : Nat → Nat → Nat) (sb : RS) (lw : Nat → Option Nat) (st : RS) (sp : RS) (sd : RS) (ss : RS) (sy : RS) (si : Nat → Option Nat) (lp : List Nat) (pf : Nat → RS) (N : Nat) (v1 : Int32) (v2 : Int32) (Q : Int32 → RS → Prop) (h : fX5_feed N st v1 v2 Q) : MetG l g yX5_feed wsX5_feed rmX5_feed [.ref ((a 0) 50), .int v1, .int v2] (sysW g a sb lw st sp sd ss sy si lp pf) (fun u : RS => sysW g a sb lw u sp sd ss sy si lp pf) (qI (fun (r : Int32) (u : RS) => Q r u)) 0 0 := by
  refine met_of (cc := cX5_feed) (own := RX5) (nL := 3) (ret := (some .int)) (lv := [(0, .ref ((a 0) 50)), (1, .int v1), (2, .int v2)]) (by decide) rfl rfl (Nat.le_of_ble_eq_true rfl) rfl ?_
  intro x C hl hZ
  subst hl
  unfold fX5_feed at h
  refine r_iload_n C dX5_feed_0 rfl ?_
  refine r_iconst (v := 1) C dX5_feed_1 (by decide) ?_
  refine r_icmp_lt (tgt := 10) C dX5_feed_2 (by decide) (fun c1 => ?_) (fun c1 => ?_)
  · have h := h.1 c1
    refine r_iconst (v := (-1)) C dX5_feed_10 (by decide) ?_
    exact r_iret C hZ (u := st) h rfl dX5_feed_11
  · have h := h.2 c1
    refine r_iload_n C dX5_feed_5 rfl ?_
    refine r_iconst (v := 4) C dX5_feed_6 (by decide) ?_
    refine r_icmp_le (tgt := 12) C dX5_feed_7 (by decide) (fun c2 => ?_) (fun c2 => ?_)
    · have h := h.1 c2
      refine r_aload_n C dX5_feed_12 rfl ?_
      refine r_get (cn := RX5) (T := TX5) (N := 13) (ci := 5) C uwX5_feed_5 0 rfl rfl 0 (by decide) kwX5_feed_0 (v := .ref ((a 1) 50)) rfl dX5_feed_13 ?_
      refine r_iload_n C dX5_feed_16 rfl ?_
      refine r_iload_n C dX5_feed_17 rfl ?_
      refine callP_I (ws' := fun z => sysW g a sb lw z sp sd ss sy si lp pf) C (run_V (As := [.int v1, .int v2]) (rest := []) (ci := 3) C hZ.2.2 (tX3_take _ g (a 1) st N v1 v2 _ h) gX5_feed_X3_take rfl dsX3_take rfl rfl ⟨(Nat.le_of_ble_eq_true rfl), (Nat.le_of_ble_eq_true rfl)⟩ rfl (List.mem_of_getElem? (i := 3) rfl) rfl (Nat.le_of_ble_eq_true rfl) dX5_feed_18 ⟨Nat.zero_le _, Nat.zero_le _⟩) sp1 (fun _ => sp1) (fun r3 st4 h => ?_)
      show St x 0 0 (sysW g a sb lw st4 sp sd ss sy si lp pf) _ _ 21
      refine r_if_eq (tgt := 34) C dX5_feed_21 (by decide) (fun c5 => ?_) (fun c5 => ?_)
      · have h := h.1 c5
        refine r_bipush (v := (-2)) C dX5_feed_34 (by decide) ?_
        exact r_iret C hZ (u := st4) h rfl dX5_feed_36
      · have h := h.2 c5
        refine r_aload_n C dX5_feed_24 rfl ?_
        refine r_get (cn := RX5) (T := TX5) (N := 13) (ci := 5) C uwX5_feed_5 0 rfl rfl 0 (by decide) kwX5_feed_0 (v := .ref ((a 1) 50)) rfl dX5_feed_25 ?_
        refine r_get (cn := RX3) (T := TX3) (N := 8) (ci := 3) C uwX5_feed_3 3 rfl rfl 1 (by decide) kwX5_feed_2 (v := .int (st4.1 1)) rfl dX5_feed_28 ?_
        refine r_goto (tgt := 36) C dX5_feed_31 (by decide) ?_
        exact r_iret C hZ (u := st4) h rfl dX5_feed_36
    · have h := h.2 c2
      refine r_iconst (v := (-1)) C dX5_feed_10 (by decide) ?_
      exact r_iret C hZ (u := st) h rfl dX5_feed_11
def rmX5_isWithin : Room := { frames := 0, cells := 0, slots := 0, locals := 0 }
def fX5_isWithin (N : Nat) (v0 : Int32) (v1 : Int32) (v2 : Int32) (Q : Int32 → Prop) : Prop :=
  ((v0 < v1 → Q 0) ∧ (¬ v0 < v1 → ((v2 < v0 → Q 0) ∧ (¬ v2 < v0 → Q 1))))
set_option maxRecDepth 100000 in
set_option maxHeartbeats 4000000 in
theorem tX5_isWithin (l : Launch) (g : Gx) (N : Nat) (v0 : Int32) (v1 : Int32) (v2 : Int32) (Q : Int32 → Prop) (h : fX5_isWithin N v0 v1 v2 Q) : MetG l g yX5_isWithin wsX5_isWithin rmX5_isWithin [.int v0, .int v1, .int v2] (([] : va_W)) (fun _ : Unit => ([] : va_W)) (qI (fun (r : Int32) (_ : Unit) => Q r)) 0 0 := by
  refine met_of (cc := cX5_isWithin) (own := RX5) (nL := 3) (ret := (some .boolean)) (lv := [(0, .int v0), (1, .int v1), (2, .int v2)]) (by decide) rfl rfl (Nat.le_of_ble_eq_true rfl) rfl ?_
  intro x C hl hZ
  subst hl
  unfold fX5_isWithin at h
  refine r_iload_n C dX5_isWithin_0 rfl ?_
  refine r_iload_n C dX5_isWithin_1 rfl ?_
  refine r_icmp_lt (tgt := 14) C dX5_isWithin_2 (by decide) (fun c1 => ?_) (fun c1 => ?_)
  · have h := h.1 c1
    refine r_iconst (v := 0) C dX5_isWithin_14 (by decide) ?_
    exact r_zret C hZ (u := ()) (by decide) h rfl dX5_isWithin_15
  · have h := h.2 c1
    refine r_iload_n C dX5_isWithin_5 rfl ?_
    refine r_iload_n C dX5_isWithin_6 rfl ?_
    refine r_icmp_gt (tgt := 14) C dX5_isWithin_7 (by decide) (fun c2 => ?_) (fun c2 => ?_)
    · have h := h.1 c2
      refine r_iconst (v := 0) C dX5_isWithin_14 (by decide) ?_
      exact r_zret C hZ (u := ()) (by decide) h rfl dX5_isWithin_15
    · have h := h.2 c2
      refine r_iconst (v := 1) C dX5_isWithin_10 (by decide) ?_
      refine r_goto (tgt := 15) C dX5_isWithin_11 (by decide) ?_
      exact r_zret C hZ (u := ()) (by decide) h rfl dX5_isWithin_15
def rmX5_want : Room := { frames := 62, cells := 1, slots := 11, locals := 2444 }
theorem kwX5_want_0 : Cond.fieldLink RX5 65 "WantsBench" "lawCount" "I" ∈ wsX5_want := by decide +kernel
theorem uwX5_want_5 : ∀ w ∈ wsX50, w ∈ wsX5_want := by decide +kernel
theorem kwX5_want_2 : Cond.fieldLink RX5 10 "WantsBench" "tape" "LWantsBench$Tape;" ∈ wsX5_want := by decide +kernel
theorem kwX5_want_3 : Cond.fieldLink RX5 58 "WantsBench$Tape" "length" "I" ∈ wsX5_want := by decide +kernel
theorem uwX5_want_3 : ∀ w ∈ wsX30, w ∈ wsX5_want := by decide +kernel
theorem kwX5_want_5 : Cond.fieldLink RX5 18 "WantsBench" "laws" "[LWantsBench$Law;" ∈ wsX5_want := by decide +kernel
theorem uwX5_want_1 : ∀ w ∈ wsX10, w ∈ wsX5_want := by decide +kernel
theorem kwX5_want_7 : Cond.classLink RX5 16 RX1 ∈ wsX5_want := by decide +kernel
theorem kwX5_want_8 : Cond.instantiable RX1 11 ∈ wsX5_want := by decide +kernel
theorem kwX5_want_9 : Cond.initialized RX1 ∈ wsX5_want := by decide +kernel
theorem kwX5_want_10 : Cond.fieldLink RX5 50 "WantsBench" "day" "I" ∈ wsX5_want := by decide +kernel
theorem kwX5_want_11 : Cond.methodLink RX5 72 yX1_init ∈ wsX5_want := by decide +kernel
theorem kwX5_want_12 : Cond.instanceMethod yX1_init ∈ wsX5_want := by decide +kernel
def fX5_want_96 (N : Nat) (sb : RS) (lw : Nat → Option Nat) (st : RS) (lp : List Nat) (pf : Nat → RS) (v4 : Int32) (Q : Int32 → RS → (Nat → Option Nat) → RS → List Nat → (Nat → RS) → Prop) : Prop :=
  (∀ st11 : RS, st11 = sI st 1 0 → ((¬ v4 = (-1) → Q ((-100 : Int32) - v4) sb lw st11 lp pf) ∧ (v4 = (-1) → Q ((sb.1 2) - (1 : Int32)) sb lw st11 lp pf)))
set_option maxRecDepth 100000 in
set_option maxHeartbeats 4000000 in
theorem wfX5_want_96 {x : Nx} {g : Gx} {W0 : va_W} {a : Nat → Nat → Nat} {sb : RS} {lw : Nat → Option Nat} {st : RS} {sp : RS} {sd : RS} {ss : RS} {sy : RS} {si : Nat → Option Nat} {lp : List Nat} {pf : Nat → RS} {N : Nat} {v4 : Int32} {Q : Int32 → RS → (Nat → Option Nat) → RS → List Nat → (Nat → RS) → Prop} (C : Cx x g cX5_want RX5 wsX5_want rmX5_want yX5_want (some .int) 5) (hZ : Zq x g W0 (fun u : RS × (Nat → Option Nat) × RS × List Nat × (Nat → RS) => sysW g a u.1 u.2.1 u.2.2.1 sp sd ss sy si u.2.2.2.1 u.2.2.2.2) (qI (fun (r : Int32) (u : RS × (Nat → Option Nat) × RS × List Nat × (Nat → RS)) => Q r u.1 u.2.1 u.2.2.1 u.2.2.2.1 u.2.2.2.2)) 1 11) (h : fX5_want_96 N sb lw st lp pf v4 Q) : St x 1 11 (sysW g a sb lw st sp sd ss sy si lp pf) [(0, .ref ((a 0) 50)), (4, .int v4)] [] 96 := by
  unfold fX5_want_96 at h
  refine r_aload_n C dX5_want_96 rfl ?_
  refine r_get (cn := RX5) (T := TX5) (N := 13) (ci := 5) C uwX5_want_5 0 rfl rfl 0 (by decide) kwX5_want_2 (v := .ref ((a 1) 50)) rfl dX5_want_97 ?_
  refine r_iconst (v := 0) C dX5_want_100 (by decide) ?_
  obtain ⟨st11, hst11⟩ : ∃ z : RS, z = sI st 1 0 := ⟨_, rfl⟩
  have h := h st11 hst11
  refine r_put (cn := RX3) (T := TX3) (N := 8) (ci := 3) (ws' := sysW g a sb lw st11 sp sd ss sy si lp pf) C uwX5_want_3 tyX3 tyX3_ok nmX3 3 rfl rfl 1 (by decide) kwX5_want_3 rfl rfl rfl (Nat.le_of_ble_eq_true rfl) dX5_want_101 (by rw [hst11]; rfl) ?_
  refine r_iload C dX5_want_104 rfl ?_
  refine r_iconst (v := (-1)) C dX5_want_106 (by decide) ?_
  refine r_icmp_ne (tgt := 119) C dX5_want_107 (by decide) (fun c12 => ?_) (fun c12 => ?_)
  · have h := h.1 c12
    refine r_bipush (v := (-100)) C dX5_want_119 (by decide) ?_
    refine r_iload C dX5_want_121 rfl ?_
    refine r_isub C dX5_want_123 ?_
    exact r_iret C hZ (u := (sb, lw, st11, lp, pf)) h rfl dX5_want_124
  · have h := h.2 c12
    refine r_aload_n C dX5_want_110 rfl ?_
    refine r_get (cn := RX5) (T := TX5) (N := 13) (ci := 5) C uwX5_want_5 0 rfl rfl 2 (by decide) kwX5_want_0 (v := .int (sb.1 2)) rfl dX5_want_111 ?_
    refine r_iconst (v := 1) C dX5_want_114 (by decide) ?_
    refine r_isub C dX5_want_115 ?_
    refine r_goto (tgt := 124) C dX5_want_116 (by decide) ?_
    exact r_iret C hZ (u := (sb, lw, st11, lp, pf)) h rfl dX5_want_124
def fX5_want (N : Nat) (sb : RS) (lw : Nat → Option Nat) (st : RS) (lp : List Nat) (pf : Nat → RS) (v1 : Int32) (v2 : Int32) (v3 : Int32) (Q : Int32 → RS → (Nat → Option Nat) → RS → List Nat → (Nat → RS) → Prop) : Prop :=
  (fX5_isWithin N v1 0 9 (fun r1 => ((r1 = 0 → Q (-1) sb lw st lp pf) ∧ (¬ r1 = 0 → (fX5_isWithin N v2 1 99 (fun r3 => ((r3 = 0 → Q (-1) sb lw st lp pf) ∧ (¬ r3 = 0 → (fX5_isWithin N v3 1 99 (fun r5 => ((¬ r5 = 0 → (((sb.1 2) < 20 → (fX3_parse N st (fun r8 st9 => ((¬ r8 = (-1) → (fX5_want_96 N sb lw st9 lp pf r8 Q)) ∧ (r8 = (-1) → (∀ q13 : Nat, q13 ∉ lp → (fX1_init N zRS st9 v1 v2 v3 (sb.1 3) (fun L15 => (∀ lp16 : List Nat, lp16 = lp ++ [q13] → (∀ pf17 : Nat → RS, pf17 = up pf q13 L15 → (vp_in (sb.1 2) 20 ∧ (q13 ∈ lp16 ∧ (∀ lw20 : Nat → Option Nat, lw20 = va_up lw (sb.1 2).toNatClampNeg (some q13) → (∀ sb21 : RS, sb21 = sI sb 2 ((sb.1 2) + (1 : Int32)) → (fX5_want_96 N sb21 lw20 st9 lp16 pf17 r8 Q))))))))))))))) ∧ (¬ (sb.1 2) < 20 → Q (-2) sb lw st lp pf))) ∧ (r5 = 0 → Q (-1) sb lw st lp pf))))))))))))
set_option maxRecDepth 100000 in
set_option maxHeartbeats 4000000 in
theorem tX5_want (l : Launch) (g : Gx) (a : Nat → Nat → Nat) (sb : RS) (lw : Nat → Option Nat) (st : RS) (sp : RS) (sd : RS) (ss : RS) (sy : RS) (si : Nat → Option Nat) (lp : List Nat) (pf : Nat → RS) (N : Nat) (v1 : Int32) (v2 : Int32) (v3 : Int32) (Q : Int32 → RS → (Nat → Option Nat) → RS → List Nat → (Nat → RS) → Prop) (h : fX5_want N sb lw st lp pf v1 v2 v3 Q) : MetG l g yX5_want wsX5_want rmX5_want [.ref ((a 0) 50), .int v1, .int v2, .int v3] (sysW g a sb lw st sp sd ss sy si lp pf) (fun u : RS × (Nat → Option Nat) × RS × List Nat × (Nat → RS) => sysW g a u.1 u.2.1 u.2.2.1 sp sd ss sy si u.2.2.2.1 u.2.2.2.2) (qI (fun (r : Int32) (u : RS × (Nat → Option Nat) × RS × List Nat × (Nat → RS)) => Q r u.1 u.2.1 u.2.2.1 u.2.2.2.1 u.2.2.2.2)) 1 11 := by
  refine met_of (cc := cX5_want) (own := RX5) (nL := 5) (ret := (some .int)) (lv := [(0, .ref ((a 0) 50)), (1, .int v1), (2, .int v2), (3, .int v3)]) (by decide) rfl rfl (Nat.le_of_ble_eq_true rfl) rfl ?_
  intro x C hl hZ
  subst hl
  unfold fX5_want at h
  refine r_iload_n C dX5_want_0 rfl ?_
  refine r_iconst (v := 0) C dX5_want_1 (by decide) ?_
  refine r_bipush (v := 9) C dX5_want_2 (by decide) ?_
  refine callR_I C (run_S (As := [.int v1, .int 0, .int 9]) (rest := []) C hZ.2.2 (tX5_isWithin _ g N v1 0 9 _ h) gX5_want_X5_isWithin rfl dsX5_isWithin rfl rfl ⟨(Nat.le_of_ble_eq_true rfl), (Nat.le_of_ble_eq_true rfl)⟩ rfl (Nat.le_of_ble_eq_true rfl) dX5_want_4 ⟨Nat.zero_le _, Nat.zero_le _⟩) (List.nil_sublist _) (fun _ => rfl) (fun r1 _ h => ?_)
  refine r_if_eq (tgt := 30) C dX5_want_7 (by decide) (fun c2 => ?_) (fun c2 => ?_)
  · have h := h.1 c2
    refine r_iconst (v := (-1)) C dX5_want_30 (by decide) ?_
    refine r_widen (k := 1) (n := 11) (by decide) (by decide) ?_
    exact r_iret C hZ (u := (sb, lw, st, lp, pf)) h rfl dX5_want_31
  · have h := h.2 c2
    refine r_iload_n C dX5_want_10 rfl ?_
    refine r_iconst (v := 1) C dX5_want_11 (by decide) ?_
    refine r_bipush (v := 99) C dX5_want_12 (by decide) ?_
    refine callR_I C (run_S (As := [.int v2, .int 1, .int 99]) (rest := []) C hZ.2.2 (tX5_isWithin _ g N v2 1 99 _ h) gX5_want_X5_isWithin rfl dsX5_isWithin rfl rfl ⟨(Nat.le_of_ble_eq_true rfl), (Nat.le_of_ble_eq_true rfl)⟩ rfl (Nat.le_of_ble_eq_true rfl) dX5_want_14 ⟨Nat.zero_le _, Nat.zero_le _⟩) (List.nil_sublist _) (fun _ => rfl) (fun r3 _ h => ?_)
    refine r_if_eq (tgt := 30) C dX5_want_17 (by decide) (fun c4 => ?_) (fun c4 => ?_)
    · have h := h.1 c4
      refine r_iconst (v := (-1)) C dX5_want_30 (by decide) ?_
      refine r_widen (k := 1) (n := 11) (by decide) (by decide) ?_
      exact r_iret C hZ (u := (sb, lw, st, lp, pf)) h rfl dX5_want_31
    · have h := h.2 c4
      refine r_iload_n C dX5_want_20 rfl ?_
      refine r_iconst (v := 1) C dX5_want_21 (by decide) ?_
      refine r_bipush (v := 99) C dX5_want_22 (by decide) ?_
      refine callR_I C (run_S (As := [.int v3, .int 1, .int 99]) (rest := []) C hZ.2.2 (tX5_isWithin _ g N v3 1 99 _ h) gX5_want_X5_isWithin rfl dsX5_isWithin rfl rfl ⟨(Nat.le_of_ble_eq_true rfl), (Nat.le_of_ble_eq_true rfl)⟩ rfl (Nat.le_of_ble_eq_true rfl) dX5_want_24 ⟨Nat.zero_le _, Nat.zero_le _⟩) (List.nil_sublist _) (fun _ => rfl) (fun r5 _ h => ?_)
      refine r_if_ne (tgt := 32) C dX5_want_27 (by decide) (fun c6 => ?_) (fun c6 => ?_)
      · have h := h.1 c6
        refine r_aload_n C dX5_want_32 rfl ?_
        refine r_get (cn := RX5) (T := TX5) (N := 13) (ci := 5) C uwX5_want_5 0 rfl rfl 2 (by decide) kwX5_want_0 (v := .int (sb.1 2)) rfl dX5_want_33 ?_
        refine r_bipush (v := 20) C dX5_want_36 (by decide) ?_
        refine r_icmp_lt (tgt := 44) C dX5_want_38 (by decide) (fun c7 => ?_) (fun c7 => ?_)
        · have h := h.1 c7
          refine r_aload_n C dX5_want_44 rfl ?_
          refine r_get (cn := RX5) (T := TX5) (N := 13) (ci := 5) C uwX5_want_5 0 rfl rfl 0 (by decide) kwX5_want_2 (v := .ref ((a 1) 50)) rfl dX5_want_45 ?_
          refine callP_I (ws' := fun z => sysW g a sb lw z sp sd ss sy si lp pf) C (run_V (As := []) (rest := []) (ci := 3) C hZ.2.2 (tX3_parse _ g (a 1) st N _ h) gX5_want_X3_parse rfl dsX3_parse rfl rfl ⟨(Nat.le_of_ble_eq_true rfl), (Nat.le_of_ble_eq_true rfl)⟩ rfl (List.mem_of_getElem? (i := 3) rfl) rfl (Nat.le_of_ble_eq_true rfl) dX5_want_48 ⟨Nat.zero_le _, Nat.zero_le _⟩) sp1 (fun _ => sp1) (fun r8 st9 h => ?_)
          show St x 0 0 (sysW g a sb lw st9 sp sd ss sy si lp pf) _ _ 51
          refine r_istore (lv' := [(0, .ref ((a 0) 50)), (1, .int v1), (2, .int v2), (3, .int v3), (4, .int r8)]) C dX5_want_51 [some 0, some 1, some 2, some 3, none] (by decide) rfl rfl ?_
          refine r_iload C dX5_want_53 rfl ?_
          refine r_iconst (v := (-1)) C dX5_want_55 (by decide) ?_
          refine r_icmp_ne (tgt := 96) C dX5_want_56 (by decide) (fun c10 => ?_) (fun c10 => ?_)
          · have h := h.1 c10
            refine r_sub [0, 4] (lv' := [(0, .ref ((a 0) 50)), (4, .int r8)]) rfl ?_
            refine r_widen (k := 1) (n := 11) (by decide) (by decide) ?_
            exact wfX5_want_96 C hZ h
          · have h := h.2 c10
            refine r_aload_n C dX5_want_59 rfl ?_
            refine r_get (cn := RX5) (T := TX5) (N := 13) (ci := 5) C uwX5_want_5 0 rfl rfl 1 (by decide) kwX5_want_5 (v := .ref ((a 0) 1)) rfl dX5_want_60 ?_
            refine r_aload_n C dX5_want_63 rfl ?_
            refine r_get (cn := RX5) (T := TX5) (N := 13) (ci := 5) C uwX5_want_5 0 rfl rfl 2 (by decide) kwX5_want_0 (v := .int (sb.1 2)) rfl dX5_want_64 ?_
            refine r_newLaw (X := sysX g a sb lw st9 sp sd ss sy si) C uwX5_want_1 kwX5_want_7 kwX5_want_8 kwX5_want_9 (Nat.le_of_ble_eq_true rfl) (Nat.le_of_ble_eq_true rfl) dX5_want_67 (fun q13 hn14 => ?_)
            have h := h q13 hn14
            refine r_dup C dX5_want_70 rfl ?_
            refine r_aload_n C dX5_want_71 rfl ?_
            refine r_get (cn := RX5) (T := TX5) (N := 13) (ci := 5) C uwX5_want_5 0 rfl rfl 0 (by decide) kwX5_want_2 (v := .ref ((a 1) 50)) rfl dX5_want_72 ?_
            refine r_iload_n C dX5_want_75 rfl ?_
            refine r_iload_n C dX5_want_76 rfl ?_
            refine r_iload_n C dX5_want_77 rfl ?_
            refine r_aload_n C dX5_want_78 rfl ?_
            refine r_get (cn := RX5) (T := TX5) (N := 13) (ci := 5) C uwX5_want_5 0 rfl rfl 3 (by decide) kwX5_want_10 (v := .int (sb.1 3)) rfl dX5_want_79 ?_
            refine callP_V (ws' := fun z => sysW g a sb lw st9 sp sd ss sy si (lp ++ [q13]) (up pf q13 z)) C (run_I (As := [.ref ((a 1) 50), .int v1, .int v2, .int v3, .int (sb.1 3)]) (rest := [.ref q13, .int (sb.1 2), .ref ((a 0) 1)]) C hZ.2.2 (tX1_init _ g q13 (a 1) zRS st9 N v1 v2 v3 (sb.1 3) _ h) gX5_want_X1_init kwX5_want_9 kwX5_want_11 kwX5_want_12 rfl rfl dsX1_init rfl rfl ⟨(Nat.le_of_ble_eq_true rfl), (Nat.le_of_ble_eq_true rfl)⟩ rfl (Nat.le_of_ble_eq_true rfl) dX5_want_82 ⟨(Nat.le_of_ble_eq_true rfl), (Nat.le_of_ble_eq_true rfl)⟩) (sp_init hn14) (fun _ => sp_init hn14) (fun L15 h => ?_)
            obtain ⟨lp16, hlp16⟩ : ∃ z : List Nat, z = lp ++ [q13] := ⟨_, rfl⟩
            obtain ⟨pf17, hpf17⟩ : ∃ z : Nat → RS, z = up pf q13 L15 := ⟨_, rfl⟩
            have h := h lp16 hlp16 pf17 hpf17
            rw [← hlp16, ← hpf17]
            show St x 1 11 (sysW g a sb lw st9 sp sd ss sy si lp16 pf17) _ _ 85
            obtain ⟨hi18, h⟩ := h
            obtain ⟨hq19, h⟩ := h
            obtain ⟨lw20, hlw20⟩ : ∃ z : Nat → Option Nat, z = va_up lw (sb.1 2).toNatClampNeg (some q13) := ⟨_, rfl⟩
            have h := h lw20 hlw20
            refine r_aast (ws' := sysW g a sb lw20 st9 sp sd ss sy si lp16 pf17) C 1 rfl (List.mem_append_right _ (pl_mem hq19)) hi18 dX5_want_85 (by rw [hlw20]; rfl) ?_
            refine r_aload_n C dX5_want_86 rfl ?_
            refine r_dup C dX5_want_87 rfl ?_
            refine r_get (cn := RX5) (T := TX5) (N := 13) (ci := 5) C uwX5_want_5 0 rfl rfl 2 (by decide) kwX5_want_0 (v := .int (sb.1 2)) rfl dX5_want_88 ?_
            refine r_iconst (v := 1) C dX5_want_91 (by decide) ?_
            refine r_iadd C dX5_want_92 ?_
            obtain ⟨sb21, hsb21⟩ : ∃ z : RS, z = sI sb 2 ((sb.1 2) + (1 : Int32)) := ⟨_, rfl⟩
            have h := h sb21 hsb21
            refine r_put (cn := RX5) (T := TX5) (N := 13) (ci := 5) (ws' := sysW g a sb21 lw20 st9 sp sd ss sy si lp16 pf17) C uwX5_want_5 tyX5 tyX5_ok nmX5 0 rfl rfl 2 (by decide) kwX5_want_0 rfl rfl rfl (Nat.le_of_ble_eq_true rfl) dX5_want_93 (by rw [hsb21]; rfl) ?_
            refine r_sub [0, 4] (lv' := [(0, .ref ((a 0) 50)), (4, .int r8)]) rfl ?_
            exact wfX5_want_96 C hZ h
        · have h := h.2 c7
          refine r_bipush (v := (-2)) C dX5_want_41 (by decide) ?_
          refine r_widen (k := 1) (n := 11) (by decide) (by decide) ?_
          exact r_iret C hZ (u := (sb, lw, st, lp, pf)) h rfl dX5_want_43
      · have h := h.2 c6
        refine r_iconst (v := (-1)) C dX5_want_30 (by decide) ?_
        refine r_widen (k := 1) (n := 11) (by decide) (by decide) ?_
        exact r_iret C hZ (u := (sb, lw, st, lp, pf)) h rfl dX5_want_31
def rmX5_lawOf : Room := { frames := 1, cells := 0, slots := 0, locals := 22 }
theorem kwX5_lawOf_0 : Cond.fieldLink RX5 65 "WantsBench" "lawCount" "I" ∈ wsX5_lawOf := by decide +kernel
theorem uwX5_lawOf_5 : ∀ w ∈ wsX50, w ∈ wsX5_lawOf := by decide +kernel
theorem kwX5_lawOf_2 : Cond.fieldLink RX5 18 "WantsBench" "laws" "[LWantsBench$Law;" ∈ wsX5_lawOf := by decide +kernel
def fX5_lawOf (N : Nat) (sb : RS) (lw : Nat → Option Nat) (v1 : Int32) (Q : Option Nat → Prop) : Prop :=
  (fX5_isWithin N v1 0 ((sb.1 2) - (1 : Int32)) (fun r1 => ((r1 = 0 → Q none) ∧ (¬ r1 = 0 → (vp_in v1 20 ∧ Q (lw v1.toNatClampNeg))))))
set_option maxRecDepth 100000 in
set_option maxHeartbeats 4000000 in
theorem tX5_lawOf (l : Launch) (g : Gx) (a : Nat → Nat → Nat) (sb : RS) (lw : Nat → Option Nat) (st : RS) (sp : RS) (sd : RS) (ss : RS) (sy : RS) (si : Nat → Option Nat) (lp : List Nat) (pf : Nat → RS) (N : Nat) (v1 : Int32) (Q : Option Nat → Prop) (h : fX5_lawOf N sb lw v1 Q) : MetG l g yX5_lawOf wsX5_lawOf rmX5_lawOf [.ref ((a 0) 50), .int v1] (sysW g a sb lw st sp sd ss sy si lp pf) (fun _ : Unit => sysW g a sb lw st sp sd ss sy si lp pf) (qA (fun (r : Option Nat) (_ : Unit) => Q r)) 0 0 := by
  refine met_of (cc := cX5_lawOf) (own := RX5) (nL := 2) (ret := (some (.object "WantsBench$Law"))) (lv := [(0, .ref ((a 0) 50)), (1, .int v1)]) (by decide) rfl rfl (Nat.le_of_ble_eq_true rfl) rfl ?_
  intro x C hl hZ
  subst hl
  unfold fX5_lawOf at h
  refine r_iload_n C dX5_lawOf_0 rfl ?_
  refine r_iconst (v := 0) C dX5_lawOf_1 (by decide) ?_
  refine r_aload_n C dX5_lawOf_2 rfl ?_
  refine r_get (cn := RX5) (T := TX5) (N := 13) (ci := 5) C uwX5_lawOf_5 0 rfl rfl 2 (by decide) kwX5_lawOf_0 (v := .int (sb.1 2)) rfl dX5_lawOf_3 ?_
  refine r_iconst (v := 1) C dX5_lawOf_6 (by decide) ?_
  refine r_isub C dX5_lawOf_7 ?_
  refine callR_I C (run_S (As := [.int v1, .int 0, .int ((sb.1 2) - (1 : Int32))]) (rest := []) C hZ.2.2 (tX5_isWithin _ g N v1 0 ((sb.1 2) - (1 : Int32)) _ h) gX5_lawOf_X5_isWithin rfl dsX5_isWithin rfl rfl ⟨(Nat.le_of_ble_eq_true rfl), (Nat.le_of_ble_eq_true rfl)⟩ rfl (Nat.le_of_ble_eq_true rfl) dX5_lawOf_8 ⟨Nat.zero_le _, Nat.zero_le _⟩) (List.nil_sublist _) (fun _ => rfl) (fun r1 _ h => ?_)
  refine r_if_eq (tgt := 23) C dX5_lawOf_11 (by decide) (fun c2 => ?_) (fun c2 => ?_)
  · have h := h.1 c2
    refine r_null C dX5_lawOf_23 ?_
    exact r_aret (a := none) C hZ (u := ()) h rfl dX5_lawOf_24
  · have h := h.2 c2
    refine r_aload_n C dX5_lawOf_14 rfl ?_
    refine r_get (cn := RX5) (T := TX5) (N := 13) (ci := 5) C uwX5_lawOf_5 0 rfl rfl 1 (by decide) kwX5_lawOf_2 (v := .ref ((a 0) 1)) rfl dX5_lawOf_15 ?_
    refine r_iload_n C dX5_lawOf_18 rfl ?_
    obtain ⟨hi3, h⟩ := h
    refine r_aald C 1 rfl hi3 dX5_lawOf_19 ?_
    refine r_goto (tgt := 24) C dX5_lawOf_20 (by decide) ?_
    exact r_aret C hZ (u := ()) h rfl dX5_lawOf_24
def rmX5_giveUp : Room := { frames := 2, cells := 0, slots := 0, locals := 43 }
theorem kwX5_giveUp_0 : Cond.fieldLink RX5 79 "WantsBench$Law" "upDay" "I" ∈ wsX5_giveUp := by decide +kernel
theorem uwX5_giveUp_1 : ∀ w ∈ wsX10, w ∈ wsX5_giveUp := by decide +kernel
theorem kwX5_giveUp_2 : Cond.fieldLink RX5 50 "WantsBench" "day" "I" ∈ wsX5_giveUp := by decide +kernel
theorem uwX5_giveUp_5 : ∀ w ∈ wsX50, w ∈ wsX5_giveUp := by decide +kernel
def fX5_giveUp (N : Nat) (sb : RS) (lw : Nat → Option Nat) (lp : List Nat) (pf : Nat → RS) (v1 : Int32) (Q : Int32 → (Nat → RS) → Prop) : Prop :=
  (fX5_lawOf N sb lw v1 (fun r1 => ((r1 = none → Q (-1) pf) ∧ (∀ q2 : Nat, r1 = some q2 → (q2 ∈ lp ∧ ((((pf q2).1 9) < 0 → (q2 ∈ lp ∧ (∀ pf6 : Nat → RS, pf6 = up pf q2 (sI (pf q2) 9 (sb.1 3)) → Q 1 pf6))) ∧ (¬ ((pf q2).1 9) < 0 → Q (-3) pf)))))))
set_option maxRecDepth 100000 in
set_option maxHeartbeats 4000000 in
theorem tX5_giveUp (l : Launch) (g : Gx) (a : Nat → Nat → Nat) (sb : RS) (lw : Nat → Option Nat) (st : RS) (sp : RS) (sd : RS) (ss : RS) (sy : RS) (si : Nat → Option Nat) (lp : List Nat) (pf : Nat → RS) (N : Nat) (v1 : Int32) (Q : Int32 → (Nat → RS) → Prop) (h : fX5_giveUp N sb lw lp pf v1 Q) : MetG l g yX5_giveUp wsX5_giveUp rmX5_giveUp [.ref ((a 0) 50), .int v1] (sysW g a sb lw st sp sd ss sy si lp pf) (fun u : (Nat → RS) => sysW g a sb lw st sp sd ss sy si lp u) (qI (fun (r : Int32) (u : (Nat → RS)) => Q r u)) 0 0 := by
  refine met_of (cc := cX5_giveUp) (own := RX5) (nL := 3) (ret := (some .int)) (lv := [(0, .ref ((a 0) 50)), (1, .int v1)]) (by decide) rfl rfl (Nat.le_of_ble_eq_true rfl) rfl ?_
  intro x C hl hZ
  subst hl
  unfold fX5_giveUp at h
  refine r_aload_n C dX5_giveUp_0 rfl ?_
  refine r_iload_n C dX5_giveUp_1 rfl ?_
  refine callR_A C (run_V (As := [.int v1]) (rest := []) (ci := 5) C hZ.2.2 (tX5_lawOf _ g a sb lw st sp sd ss sy si lp pf N v1 _ h) gX5_giveUp_X5_lawOf rfl dsX5_lawOf rfl rfl ⟨(Nat.le_of_ble_eq_true rfl), (Nat.le_of_ble_eq_true rfl)⟩ rfl (List.mem_of_getElem? (i := 0) rfl) rfl (Nat.le_of_ble_eq_true rfl) dX5_giveUp_2 ⟨Nat.zero_le _, Nat.zero_le _⟩) (List.Sublist.refl _) (fun _ => rfl) (fun r1 _ h => ?_)
  cases r1 with
  | none =>
    have h := h.1 rfl
    show St x _ _ _ _ [.null] _
    refine r_astore_nN (lv' := [(0, .ref ((a 0) 50)), (2, .null)]) C dX5_giveUp_5 [some 0, none] (by decide) rfl rfl ?_
    refine r_aload_nN C dX5_giveUp_6 rfl ?_
    refine r_ifnonnullN C dX5_giveUp_7 ?_
    refine r_iconst (v := (-1)) C dX5_giveUp_10 (by decide) ?_
    exact r_iret C hZ (u := pf) h rfl dX5_giveUp_11
  | some q2 =>
    have h := h.2 q2 rfl
    show St x _ _ _ _ [.ref q2] _
    refine r_astore_n (lv' := [(0, .ref ((a 0) 50)), (2, .ref q2)]) C dX5_giveUp_5 [some 0, none] (by decide) rfl rfl ?_
    refine r_aload_n C dX5_giveUp_6 rfl ?_
    refine r_ifnonnull (tgt := 12) C dX5_giveUp_7 (by decide) ?_
    refine r_aload_n C dX5_giveUp_12 rfl ?_
    obtain ⟨hq3, h⟩ := h
    refine r_getP (X := sysX g a sb lw st sp sd ss sy si) (lp := lp) (pf := pf) C uwX5_giveUp_1 hq3 9 (by decide) kwX5_giveUp_0 (v := .int ((pf q2).1 9)) ⟨rfl, rfl⟩ dX5_giveUp_13 ?_
    refine r_if_lt (tgt := 22) C dX5_giveUp_16 (by decide) (fun c4 => ?_) (fun c4 => ?_)
    · have h := h.1 c4
      refine r_aload_n C dX5_giveUp_22 rfl ?_
      refine r_aload_n C dX5_giveUp_23 rfl ?_
      refine r_get (cn := RX5) (T := TX5) (N := 13) (ci := 5) C uwX5_giveUp_5 0 rfl rfl 3 (by decide) kwX5_giveUp_2 (v := .int (sb.1 3)) rfl dX5_giveUp_24 ?_
      obtain ⟨hq5, h⟩ := h
      obtain ⟨pf6, hpf6⟩ : ∃ z : Nat → RS, z = up pf q2 (sI (pf q2) 9 (sb.1 3)) := ⟨_, rfl⟩
      have h := h pf6 hpf6
      refine r_putP (X := sysX g a sb lw st sp sd ss sy si) C uwX5_giveUp_1 hq5 9 (by decide) kwX5_giveUp_0 rfl rfl rfl (Nat.le_of_ble_eq_true rfl) rfl dX5_giveUp_27 ?_
      rw [← hpf6]
      show St x _ _ (sysW g a sb lw st sp sd ss sy si lp pf6) _ _ _
      refine r_iconst (v := 1) C dX5_giveUp_30 (by decide) ?_
      exact r_iret C hZ (u := pf6) h rfl dX5_giveUp_31
    · have h := h.2 c4
      refine r_bipush (v := (-3)) C dX5_giveUp_19 (by decide) ?_
      exact r_iret C hZ (u := pf) h rfl dX5_giveUp_21
def rmX5_about : Room := { frames := 2, cells := 0, slots := 0, locals := 43 }
theorem kwX5_about_0 : Cond.fieldLink RX5 82 "WantsBench$Law" "sort" "I" ∈ wsX5_about := by decide +kernel
theorem uwX5_about_1 : ∀ w ∈ wsX10, w ∈ wsX5_about := by decide +kernel
theorem kwX5_about_2 : Cond.fieldLink RX5 85 "WantsBench$Law" "n" "I" ∈ wsX5_about := by decide +kernel
theorem kwX5_about_3 : Cond.fieldLink RX5 88 "WantsBench$Law" "owner" "I" ∈ wsX5_about := by decide +kernel
theorem kwX5_about_4 : Cond.fieldLink RX5 91 "WantsBench$Law" "worth" "I" ∈ wsX5_about := by decide +kernel
theorem kwX5_about_5 : Cond.fieldLink RX5 94 "WantsBench$Law" "ease" "I" ∈ wsX5_about := by decide +kernel
theorem kwX5_about_6 : Cond.fieldLink RX5 97 "WantsBench$Law" "day" "I" ∈ wsX5_about := by decide +kernel
theorem kwX5_about_7 : Cond.fieldLink RX5 79 "WantsBench$Law" "upDay" "I" ∈ wsX5_about := by decide +kernel
theorem kwX5_about_8 : Cond.fieldLink RX5 98 "WantsBench$Law" "ledTo" "I" ∈ wsX5_about := by decide +kernel
theorem kwX5_about_9 : Cond.fieldLink RX5 107 "WantsBench$Law" "textLength" "I" ∈ wsX5_about := by decide +kernel
def fX5_about (N : Nat) (sb : RS) (lw : Nat → Option Nat) (lp : List Nat) (pf : Nat → RS) (v1 : Int32) (v2 : Int32) (Q : Int32 → Prop) : Prop :=
  (fX5_lawOf N sb lw v1 (fun r1 => ((r1 = none → Q (-1)) ∧ (∀ q2 : Nat, r1 = some q2 → (((v2.toInt < 0 ∨ 8 < v2.toInt) → Q (-1)) ∧ (v2 = 0 → (q2 ∈ lp ∧ Q ((pf q2).1 0))) ∧ (v2 = 1 → (q2 ∈ lp ∧ Q ((pf q2).1 1))) ∧ (v2 = 2 → (q2 ∈ lp ∧ Q ((pf q2).1 5))) ∧ (v2 = 3 → (q2 ∈ lp ∧ Q ((pf q2).1 6))) ∧ (v2 = 4 → (q2 ∈ lp ∧ Q ((pf q2).1 7))) ∧ (v2 = 5 → (q2 ∈ lp ∧ Q ((pf q2).1 8))) ∧ (v2 = 6 → (q2 ∈ lp ∧ Q ((pf q2).1 9))) ∧ (v2 = 7 → (q2 ∈ lp ∧ (fJ6_bitCount_0f7a4 N ((pf q2).1 10) (fun r14 => Q r14)))) ∧ (v2 = 8 → (q2 ∈ lp ∧ Q ((pf q2).1 4))))))))
set_option maxRecDepth 100000 in
set_option maxHeartbeats 4000000 in
theorem tX5_about (l : Launch) (g : Gx) (a : Nat → Nat → Nat) (sb : RS) (lw : Nat → Option Nat) (st : RS) (sp : RS) (sd : RS) (ss : RS) (sy : RS) (si : Nat → Option Nat) (lp : List Nat) (pf : Nat → RS) (N : Nat) (v1 : Int32) (v2 : Int32) (Q : Int32 → Prop) (h : fX5_about N sb lw lp pf v1 v2 Q) : MetG l g yX5_about wsX5_about rmX5_about [.ref ((a 0) 50), .int v1, .int v2] (sysW g a sb lw st sp sd ss sy si lp pf) (fun _ : Unit => sysW g a sb lw st sp sd ss sy si lp pf) (qI (fun (r : Int32) (_ : Unit) => Q r)) 0 0 := by
  refine met_of (cc := cX5_about) (own := RX5) (nL := 4) (ret := (some .int)) (lv := [(0, .ref ((a 0) 50)), (1, .int v1), (2, .int v2)]) (by decide) rfl rfl (Nat.le_of_ble_eq_true rfl) rfl ?_
  intro x C hl hZ
  subst hl
  unfold fX5_about at h
  refine r_aload_n C dX5_about_0 rfl ?_
  refine r_iload_n C dX5_about_1 rfl ?_
  refine callR_A C (run_V (As := [.int v1]) (rest := []) (ci := 5) C hZ.2.2 (tX5_lawOf _ g a sb lw st sp sd ss sy si lp pf N v1 _ h) gX5_about_X5_lawOf rfl dsX5_lawOf rfl rfl ⟨(Nat.le_of_ble_eq_true rfl), (Nat.le_of_ble_eq_true rfl)⟩ rfl (List.mem_of_getElem? (i := 0) rfl) rfl (Nat.le_of_ble_eq_true rfl) dX5_about_2 ⟨Nat.zero_le _, Nat.zero_le _⟩) (List.Sublist.refl _) (fun _ => rfl) (fun r1 _ h => ?_)
  cases r1 with
  | none =>
    have h := h.1 rfl
    show St x _ _ _ _ [.null] _
    refine r_astore_nN (lv' := [(2, .int v2), (3, .null)]) C dX5_about_5 [some 2, none] (by decide) rfl rfl ?_
    refine r_aload_nN C dX5_about_6 rfl ?_
    refine r_ifnonnullN C dX5_about_7 ?_
    refine r_iconst (v := (-1)) C dX5_about_10 (by decide) ?_
    exact r_iret C hZ (u := ()) h rfl dX5_about_11
  | some q2 =>
    have h := h.2 q2 rfl
    show St x _ _ _ _ [.ref q2] _
    refine r_astore_n (lv' := [(2, .int v2), (3, .ref q2)]) C dX5_about_5 [some 2, none] (by decide) rfl rfl ?_
    refine r_aload_n C dX5_about_6 rfl ?_
    refine r_ifnonnull (tgt := 12) C dX5_about_7 (by decide) ?_
    refine r_iload_n C dX5_about_12 rfl ?_
    rcases sw_cases 8 v2 with hs3 | ⟨k4, hk5, hs3⟩
    · have h := h.1 hs3
      refine r_tableOut (tgt := 112) C dX5_about_13 hs3 (by decide) ?_
      refine r_iconst (v := (-1)) C dX5_about_112 (by decide) ?_
      exact r_iret C hZ (u := ()) h rfl dX5_about_113
    · match k4, hk5, hs3 with
      | 0, _, hs3 =>
        have h := h.2.1 hs3
        rw [hs3]
        refine r_tableIn (tgt := 64) C dX5_about_13 (by decide) (by decide) (off := 51) (by decide) (by decide) ?_
        refine r_aload_n C dX5_about_64 rfl ?_
        obtain ⟨hq6, h⟩ := h
        refine r_getP (X := sysX g a sb lw st sp sd ss sy si) (lp := lp) (pf := pf) C uwX5_about_1 hq6 0 (by decide) kwX5_about_0 (v := .int ((pf q2).1 0)) ⟨rfl, rfl⟩ dX5_about_65 ?_
        exact r_iret C hZ (u := ()) h rfl dX5_about_68
      | 1, _, hs3 =>
        have h := h.2.2.1 hs3
        rw [hs3]
        refine r_tableIn (tgt := 69) C dX5_about_13 (by decide) (by decide) (off := 56) (by decide) (by decide) ?_
        refine r_aload_n C dX5_about_69 rfl ?_
        obtain ⟨hq7, h⟩ := h
        refine r_getP (X := sysX g a sb lw st sp sd ss sy si) (lp := lp) (pf := pf) C uwX5_about_1 hq7 1 (by decide) kwX5_about_2 (v := .int ((pf q2).1 1)) ⟨rfl, rfl⟩ dX5_about_70 ?_
        exact r_iret C hZ (u := ()) h rfl dX5_about_73
      | 2, _, hs3 =>
        have h := h.2.2.2.1 hs3
        rw [hs3]
        refine r_tableIn (tgt := 74) C dX5_about_13 (by decide) (by decide) (off := 61) (by decide) (by decide) ?_
        refine r_aload_n C dX5_about_74 rfl ?_
        obtain ⟨hq8, h⟩ := h
        refine r_getP (X := sysX g a sb lw st sp sd ss sy si) (lp := lp) (pf := pf) C uwX5_about_1 hq8 5 (by decide) kwX5_about_3 (v := .int ((pf q2).1 5)) ⟨rfl, rfl⟩ dX5_about_75 ?_
        exact r_iret C hZ (u := ()) h rfl dX5_about_78
      | 3, _, hs3 =>
        have h := h.2.2.2.2.1 hs3
        rw [hs3]
        refine r_tableIn (tgt := 79) C dX5_about_13 (by decide) (by decide) (off := 66) (by decide) (by decide) ?_
        refine r_aload_n C dX5_about_79 rfl ?_
        obtain ⟨hq9, h⟩ := h
        refine r_getP (X := sysX g a sb lw st sp sd ss sy si) (lp := lp) (pf := pf) C uwX5_about_1 hq9 6 (by decide) kwX5_about_4 (v := .int ((pf q2).1 6)) ⟨rfl, rfl⟩ dX5_about_80 ?_
        exact r_iret C hZ (u := ()) h rfl dX5_about_83
      | 4, _, hs3 =>
        have h := h.2.2.2.2.2.1 hs3
        rw [hs3]
        refine r_tableIn (tgt := 84) C dX5_about_13 (by decide) (by decide) (off := 71) (by decide) (by decide) ?_
        refine r_aload_n C dX5_about_84 rfl ?_
        obtain ⟨hq10, h⟩ := h
        refine r_getP (X := sysX g a sb lw st sp sd ss sy si) (lp := lp) (pf := pf) C uwX5_about_1 hq10 7 (by decide) kwX5_about_5 (v := .int ((pf q2).1 7)) ⟨rfl, rfl⟩ dX5_about_85 ?_
        exact r_iret C hZ (u := ()) h rfl dX5_about_88
      | 5, _, hs3 =>
        have h := h.2.2.2.2.2.2.1 hs3
        rw [hs3]
        refine r_tableIn (tgt := 89) C dX5_about_13 (by decide) (by decide) (off := 76) (by decide) (by decide) ?_
        refine r_aload_n C dX5_about_89 rfl ?_
        obtain ⟨hq11, h⟩ := h
        refine r_getP (X := sysX g a sb lw st sp sd ss sy si) (lp := lp) (pf := pf) C uwX5_about_1 hq11 8 (by decide) kwX5_about_6 (v := .int ((pf q2).1 8)) ⟨rfl, rfl⟩ dX5_about_90 ?_
        exact r_iret C hZ (u := ()) h rfl dX5_about_93
      | 6, _, hs3 =>
        have h := h.2.2.2.2.2.2.2.1 hs3
        rw [hs3]
        refine r_tableIn (tgt := 94) C dX5_about_13 (by decide) (by decide) (off := 81) (by decide) (by decide) ?_
        refine r_aload_n C dX5_about_94 rfl ?_
        obtain ⟨hq12, h⟩ := h
        refine r_getP (X := sysX g a sb lw st sp sd ss sy si) (lp := lp) (pf := pf) C uwX5_about_1 hq12 9 (by decide) kwX5_about_7 (v := .int ((pf q2).1 9)) ⟨rfl, rfl⟩ dX5_about_95 ?_
        exact r_iret C hZ (u := ()) h rfl dX5_about_98
      | 7, _, hs3 =>
        have h := h.2.2.2.2.2.2.2.2.1 hs3
        rw [hs3]
        refine r_tableIn (tgt := 99) C dX5_about_13 (by decide) (by decide) (off := 86) (by decide) (by decide) ?_
        refine r_aload_n C dX5_about_99 rfl ?_
        obtain ⟨hq13, h⟩ := h
        refine r_getP (X := sysX g a sb lw st sp sd ss sy si) (lp := lp) (pf := pf) C uwX5_about_1 hq13 10 (by decide) kwX5_about_8 (v := .int ((pf q2).1 10)) ⟨rfl, rfl⟩ dX5_about_100 ?_
        refine callR_I C (run_S (As := [.int ((pf q2).1 10)]) (rest := []) C hZ.2.2 (tJ6_bitCount_0f7a4 _ g N ((pf q2).1 10) _ h) gX5_about_J6_bitCount_0f7a4 rfl dsJ6_bitCount_0f7a4 rfl rfl ⟨(Nat.le_of_ble_eq_true rfl), (Nat.le_of_ble_eq_true rfl)⟩ rfl (Nat.le_of_ble_eq_true rfl) dX5_about_103 ⟨Nat.zero_le _, Nat.zero_le _⟩) (List.nil_sublist _) (fun _ => rfl) (fun r14 _ h => ?_)
        exact r_iret C hZ (u := ()) h rfl dX5_about_106
      | 8, _, hs3 =>
        have h := h.2.2.2.2.2.2.2.2.2 hs3
        rw [hs3]
        refine r_tableIn (tgt := 107) C dX5_about_13 (by decide) (by decide) (off := 94) (by decide) (by decide) ?_
        refine r_aload_n C dX5_about_107 rfl ?_
        obtain ⟨hq15, h⟩ := h
        refine r_getP (X := sysX g a sb lw st sp sd ss sy si) (lp := lp) (pf := pf) C uwX5_about_1 hq15 4 (by decide) kwX5_about_9 (v := .int ((pf q2).1 4)) ⟨rfl, rfl⟩ dX5_about_108 ?_
        exact r_iret C hZ (u := ()) h rfl dX5_about_111
      | k4 + 9, hk5, _ => exact absurd hk5 (by omega)
def rmX5_isBit : Room := { frames := 0, cells := 0, slots := 0, locals := 0 }
def fX5_isBit (N : Nat) (v0 : Int32) (Q : Int32 → Prop) : Prop :=
  ((v0 = 0 → Q 1) ∧ (¬ v0 = 0 → ((¬ v0 = 1 → Q 0) ∧ (v0 = 1 → Q 1))))
set_option maxRecDepth 100000 in
set_option maxHeartbeats 4000000 in
theorem tX5_isBit (l : Launch) (g : Gx) (N : Nat) (v0 : Int32) (Q : Int32 → Prop) (h : fX5_isBit N v0 Q) : MetG l g yX5_isBit wsX5_isBit rmX5_isBit [.int v0] (([] : va_W)) (fun _ : Unit => ([] : va_W)) (qI (fun (r : Int32) (_ : Unit) => Q r)) 0 0 := by
  refine met_of (cc := cX5_isBit) (own := RX5) (nL := 1) (ret := (some .boolean)) (lv := [(0, .int v0)]) (by decide) rfl rfl (Nat.le_of_ble_eq_true rfl) rfl ?_
  intro x C hl hZ
  subst hl
  unfold fX5_isBit at h
  refine r_iload_n C dX5_isBit_0 rfl ?_
  refine r_if_eq (tgt := 9) C dX5_isBit_1 (by decide) (fun c1 => ?_) (fun c1 => ?_)
  · have h := h.1 c1
    refine r_iconst (v := 1) C dX5_isBit_9 (by decide) ?_
    refine r_goto (tgt := 14) C dX5_isBit_10 (by decide) ?_
    exact r_zret C hZ (u := ()) (by decide) h rfl dX5_isBit_14
  · have h := h.2 c1
    refine r_iload_n C dX5_isBit_4 rfl ?_
    refine r_iconst (v := 1) C dX5_isBit_5 (by decide) ?_
    refine r_icmp_ne (tgt := 13) C dX5_isBit_6 (by decide) (fun c2 => ?_) (fun c2 => ?_)
    · have h := h.1 c2
      refine r_iconst (v := 0) C dX5_isBit_13 (by decide) ?_
      exact r_zret C hZ (u := ()) (by decide) h rfl dX5_isBit_14
    · have h := h.2 c2
      refine r_iconst (v := 1) C dX5_isBit_9 (by decide) ?_
      refine r_goto (tgt := 14) C dX5_isBit_10 (by decide) ?_
      exact r_zret C hZ (u := ()) (by decide) h rfl dX5_isBit_14
def rmX5_holds : Room := { frames := 2, cells := 0, slots := 0, locals := 43 }
theorem kwX5_holds_0 : Cond.fieldLink RX5 118 "WantsBench$Law" "second" "J" ∈ wsX5_holds := by decide +kernel
theorem uwX5_holds_1 : ∀ w ∈ wsX10, w ∈ wsX5_holds := by decide +kernel
theorem kwX5_holds_2 : Cond.fieldLink RX5 114 "WantsBench$Law" "first" "J" ∈ wsX5_holds := by decide +kernel
theorem kwX5_holds_3 : Cond.fieldLink RX5 82 "WantsBench$Law" "sort" "I" ∈ wsX5_holds := by decide +kernel
def fX5_holds_74 (N : Nat) (sb : RS) (lw : Nat → Option Nat) (lp : List Nat) (pf : Nat → RS) (v3 : Int32) (v4 : Int32) (k0 : Int64) (Q : Int32 → Prop) : Prop :=
  (fX1_has N k0 (((8 : Int32) * v3) + v4) (fun r12 => (fX5_bit N r12 (fun r13 => Q r13))))
set_option maxRecDepth 100000 in
set_option maxHeartbeats 4000000 in
theorem wfX5_holds_74 {x : Nx} {g : Gx} {W0 : va_W} {a : Nat → Nat → Nat} {sb : RS} {lw : Nat → Option Nat} {st : RS} {sp : RS} {sd : RS} {ss : RS} {sy : RS} {si : Nat → Option Nat} {lp : List Nat} {pf : Nat → RS} {N : Nat} {v3 : Int32} {v4 : Int32} {k0 : Int64} {Q : Int32 → Prop} (C : Cx x g cX5_holds RX5 wsX5_holds rmX5_holds yX5_holds (some .int) 8) (hZ : Zq x g W0 (fun _ : Unit => sysW g a sb lw st sp sd ss sy si lp pf) (qI (fun (r : Int32) (_ : Unit) => Q r)) 0 0) (h : fX5_holds_74 N sb lw lp pf v3 v4 k0 Q) : St x 0 0 (sysW g a sb lw st sp sd ss sy si lp pf) [(3, .int v3), (4, .int v4)] [.long k0] 74 := by
  unfold fX5_holds_74 at h
  refine r_lstore (lv' := [(3, .int v3), (4, .int v4), (6, .long k0)]) C dX5_holds_74 [some 0, some 1, none] (by decide) rfl rfl ?_
  refine r_lload C dX5_holds_76 rfl ?_
  refine r_bipush (v := 8) C dX5_holds_78 (by decide) ?_
  refine r_iload_n C dX5_holds_80 rfl ?_
  refine r_imul C dX5_holds_81 ?_
  refine r_iload C dX5_holds_82 rfl ?_
  refine r_iadd C dX5_holds_84 ?_
  refine callR_I C (run_S (As := [.long k0, .int (((8 : Int32) * v3) + v4)]) (rest := []) C hZ.2.2 (tX1_has _ g N k0 (((8 : Int32) * v3) + v4) _ h) gX5_holds_X1_has rfl dsX1_has rfl rfl ⟨(Nat.le_of_ble_eq_true rfl), (Nat.le_of_ble_eq_true rfl)⟩ rfl (Nat.le_of_ble_eq_true rfl) dX5_holds_85 ⟨Nat.zero_le _, Nat.zero_le _⟩) (List.nil_sublist _) (fun _ => rfl) (fun r12 _ h => ?_)
  refine callR_I C (run_S (As := [.int r12]) (rest := []) C hZ.2.2 (tX5_bit _ g N r12 _ h) gX5_holds_X5_bit rfl dsX5_bit rfl rfl ⟨(Nat.le_of_ble_eq_true rfl), (Nat.le_of_ble_eq_true rfl)⟩ rfl (Nat.le_of_ble_eq_true rfl) dX5_holds_88 ⟨Nat.zero_le _, Nat.zero_le _⟩) (List.nil_sublist _) (fun _ => rfl) (fun r13 _ h => ?_)
  exact r_iret C hZ (u := ()) h rfl dX5_holds_91
def fX5_holds_57 (N : Nat) (sb : RS) (lw : Nat → Option Nat) (lp : List Nat) (pf : Nat → RS) (v2 : Int32) (v3 : Int32) (v4 : Int32) (v5 : Nat) (Q : Int32 → Prop) : Prop :=
  ((¬ v2 = 0 → (v5 ∈ lp ∧ (fX5_holds_74 N sb lw lp pf v3 v4 ((pf v5).2.2.1 3) Q))) ∧ (v2 = 0 → (v5 ∈ lp ∧ (fX5_holds_74 N sb lw lp pf v3 v4 ((pf v5).2.2.1 2) Q))))
set_option maxRecDepth 100000 in
set_option maxHeartbeats 4000000 in
theorem wfX5_holds_57 {x : Nx} {g : Gx} {W0 : va_W} {a : Nat → Nat → Nat} {sb : RS} {lw : Nat → Option Nat} {st : RS} {sp : RS} {sd : RS} {ss : RS} {sy : RS} {si : Nat → Option Nat} {lp : List Nat} {pf : Nat → RS} {N : Nat} {v2 : Int32} {v3 : Int32} {v4 : Int32} {v5 : Nat} {Q : Int32 → Prop} (C : Cx x g cX5_holds RX5 wsX5_holds rmX5_holds yX5_holds (some .int) 8) (hZ : Zq x g W0 (fun _ : Unit => sysW g a sb lw st sp sd ss sy si lp pf) (qI (fun (r : Int32) (_ : Unit) => Q r)) 0 0) (h : fX5_holds_57 N sb lw lp pf v2 v3 v4 v5 Q) : St x 0 0 (sysW g a sb lw st sp sd ss sy si lp pf) [(2, .int v2), (3, .int v3), (4, .int v4), (5, .ref v5)] [] 57 := by
  unfold fX5_holds_57 at h
  refine r_iload_n C dX5_holds_57 rfl ?_
  refine r_if_ne (tgt := 69) C dX5_holds_58 (by decide) (fun c10 => ?_) (fun c10 => ?_)
  · have h := h.1 c10
    refine r_aload C dX5_holds_69 rfl ?_
    obtain ⟨hq11, h⟩ := h
    refine r_getP (X := sysX g a sb lw st sp sd ss sy si) (lp := lp) (pf := pf) C uwX5_holds_1 hq11 3 (by decide) kwX5_holds_0 (v := .long ((pf v5).2.2.1 3)) ⟨rfl, rfl⟩ dX5_holds_71 ?_
    refine r_sub [1, 2] (lv' := [(3, .int v3), (4, .int v4)]) rfl ?_
    exact wfX5_holds_74 C hZ h
  · have h := h.2 c10
    refine r_aload C dX5_holds_61 rfl ?_
    obtain ⟨hq14, h⟩ := h
    refine r_getP (X := sysX g a sb lw st sp sd ss sy si) (lp := lp) (pf := pf) C uwX5_holds_1 hq14 2 (by decide) kwX5_holds_2 (v := .long ((pf v5).2.2.1 2)) ⟨rfl, rfl⟩ dX5_holds_63 ?_
    refine r_goto (tgt := 74) C dX5_holds_66 (by decide) ?_
    refine r_sub [1, 2] (lv' := [(3, .int v3), (4, .int v4)]) rfl ?_
    exact wfX5_holds_74 C hZ h
def fX5_holds (N : Nat) (sb : RS) (lw : Nat → Option Nat) (lp : List Nat) (pf : Nat → RS) (v1 : Int32) (v2 : Int32) (v3 : Int32) (v4 : Int32) (Q : Int32 → Prop) : Prop :=
  (fX5_lawOf N sb lw v1 (fun r1 => ((r1 = none → Q (-1)) ∧ (∀ q2 : Nat, r1 = some q2 → (fX5_isBit N v2 (fun r3 => ((r3 = 0 → Q (-1)) ∧ (¬ r3 = 0 → (fX5_isWithin N v3 0 7 (fun r5 => ((r5 = 0 → Q (-1)) ∧ (¬ r5 = 0 → (fX5_isWithin N v4 0 7 (fun r7 => ((¬ r7 = 0 → ((¬ v2 = 1 → (fX5_holds_57 N sb lw lp pf v2 v3 v4 q2 Q)) ∧ (v2 = 1 → (q2 ∈ lp ∧ ((¬ ((pf q2).1 0) = 0 → (fX5_holds_57 N sb lw lp pf v2 v3 v4 q2 Q)) ∧ (((pf q2).1 0) = 0 → Q (-1))))))) ∧ (r7 = 0 → Q (-1)))))))))))))))))
set_option maxRecDepth 100000 in
set_option maxHeartbeats 4000000 in
theorem tX5_holds (l : Launch) (g : Gx) (a : Nat → Nat → Nat) (sb : RS) (lw : Nat → Option Nat) (st : RS) (sp : RS) (sd : RS) (ss : RS) (sy : RS) (si : Nat → Option Nat) (lp : List Nat) (pf : Nat → RS) (N : Nat) (v1 : Int32) (v2 : Int32) (v3 : Int32) (v4 : Int32) (Q : Int32 → Prop) (h : fX5_holds N sb lw lp pf v1 v2 v3 v4 Q) : MetG l g yX5_holds wsX5_holds rmX5_holds [.ref ((a 0) 50), .int v1, .int v2, .int v3, .int v4] (sysW g a sb lw st sp sd ss sy si lp pf) (fun _ : Unit => sysW g a sb lw st sp sd ss sy si lp pf) (qI (fun (r : Int32) (_ : Unit) => Q r)) 0 0 := by
  refine met_of (cc := cX5_holds) (own := RX5) (nL := 8) (ret := (some .int)) (lv := [(0, .ref ((a 0) 50)), (1, .int v1), (2, .int v2), (3, .int v3), (4, .int v4)]) (by decide) rfl rfl (Nat.le_of_ble_eq_true rfl) rfl ?_
  intro x C hl hZ
  subst hl
  unfold fX5_holds at h
  refine r_aload_n C dX5_holds_0 rfl ?_
  refine r_iload_n C dX5_holds_1 rfl ?_
  refine callR_A C (run_V (As := [.int v1]) (rest := []) (ci := 5) C hZ.2.2 (tX5_lawOf _ g a sb lw st sp sd ss sy si lp pf N v1 _ h) gX5_holds_X5_lawOf rfl dsX5_lawOf rfl rfl ⟨(Nat.le_of_ble_eq_true rfl), (Nat.le_of_ble_eq_true rfl)⟩ rfl (List.mem_of_getElem? (i := 0) rfl) rfl (Nat.le_of_ble_eq_true rfl) dX5_holds_2 ⟨Nat.zero_le _, Nat.zero_le _⟩) (List.Sublist.refl _) (fun _ => rfl) (fun r1 _ h => ?_)
  cases r1 with
  | none =>
    have h := h.1 rfl
    show St x _ _ _ _ [.null] _
    refine r_astoreN (lv' := [(2, .int v2), (3, .int v3), (4, .int v4), (5, .null)]) C dX5_holds_5 [some 2, some 3, some 4, none] (by decide) rfl rfl ?_
    refine r_aloadN C dX5_holds_7 rfl ?_
    refine r_ifnullN (tgt := 40) C dX5_holds_9 (by decide) ?_
    refine r_iconst (v := (-1)) C dX5_holds_40 (by decide) ?_
    exact r_iret C hZ (u := ()) h rfl dX5_holds_41
  | some q2 =>
    have h := h.2 q2 rfl
    show St x _ _ _ _ [.ref q2] _
    refine r_astore (lv' := [(2, .int v2), (3, .int v3), (4, .int v4), (5, .ref q2)]) C dX5_holds_5 [some 2, some 3, some 4, none] (by decide) rfl rfl ?_
    refine r_aload C dX5_holds_7 rfl ?_
    refine r_ifnull C dX5_holds_9 ?_
    refine r_iload_n C dX5_holds_12 rfl ?_
    refine callR_I C (run_S (As := [.int v2]) (rest := []) C hZ.2.2 (tX5_isBit _ g N v2 _ h) gX5_holds_X5_isBit rfl dsX5_isBit rfl rfl ⟨(Nat.le_of_ble_eq_true rfl), (Nat.le_of_ble_eq_true rfl)⟩ rfl (Nat.le_of_ble_eq_true rfl) dX5_holds_13 ⟨Nat.zero_le _, Nat.zero_le _⟩) (List.nil_sublist _) (fun _ => rfl) (fun r3 _ h => ?_)
    refine r_if_eq (tgt := 40) C dX5_holds_16 (by decide) (fun c4 => ?_) (fun c4 => ?_)
    · have h := h.1 c4
      refine r_iconst (v := (-1)) C dX5_holds_40 (by decide) ?_
      exact r_iret C hZ (u := ()) h rfl dX5_holds_41
    · have h := h.2 c4
      refine r_iload_n C dX5_holds_19 rfl ?_
      refine r_iconst (v := 0) C dX5_holds_20 (by decide) ?_
      refine r_bipush (v := 7) C dX5_holds_21 (by decide) ?_
      refine callR_I C (run_S (As := [.int v3, .int 0, .int 7]) (rest := []) C hZ.2.2 (tX5_isWithin _ g N v3 0 7 _ h) gX5_holds_X5_isWithin rfl dsX5_isWithin rfl rfl ⟨(Nat.le_of_ble_eq_true rfl), (Nat.le_of_ble_eq_true rfl)⟩ rfl (Nat.le_of_ble_eq_true rfl) dX5_holds_23 ⟨Nat.zero_le _, Nat.zero_le _⟩) (List.nil_sublist _) (fun _ => rfl) (fun r5 _ h => ?_)
      refine r_if_eq (tgt := 40) C dX5_holds_26 (by decide) (fun c6 => ?_) (fun c6 => ?_)
      · have h := h.1 c6
        refine r_iconst (v := (-1)) C dX5_holds_40 (by decide) ?_
        exact r_iret C hZ (u := ()) h rfl dX5_holds_41
      · have h := h.2 c6
        refine r_iload C dX5_holds_29 rfl ?_
        refine r_iconst (v := 0) C dX5_holds_31 (by decide) ?_
        refine r_bipush (v := 7) C dX5_holds_32 (by decide) ?_
        refine callR_I C (run_S (As := [.int v4, .int 0, .int 7]) (rest := []) C hZ.2.2 (tX5_isWithin _ g N v4 0 7 _ h) gX5_holds_X5_isWithin rfl dsX5_isWithin rfl rfl ⟨(Nat.le_of_ble_eq_true rfl), (Nat.le_of_ble_eq_true rfl)⟩ rfl (Nat.le_of_ble_eq_true rfl) dX5_holds_34 ⟨Nat.zero_le _, Nat.zero_le _⟩) (List.nil_sublist _) (fun _ => rfl) (fun r7 _ h => ?_)
        refine r_if_ne (tgt := 42) C dX5_holds_37 (by decide) (fun c8 => ?_) (fun c8 => ?_)
        · have h := h.1 c8
          refine r_iload_n C dX5_holds_42 rfl ?_
          refine r_iconst (v := 1) C dX5_holds_43 (by decide) ?_
          refine r_icmp_ne (tgt := 57) C dX5_holds_44 (by decide) (fun c9 => ?_) (fun c9 => ?_)
          · have h := h.1 c9
            exact wfX5_holds_57 C hZ h
          · have h := h.2 c9
            refine r_aload C dX5_holds_47 rfl ?_
            obtain ⟨hq15, h⟩ := h
            refine r_getP (X := sysX g a sb lw st sp sd ss sy si) (lp := lp) (pf := pf) C uwX5_holds_1 hq15 0 (by decide) kwX5_holds_3 (v := .int ((pf q2).1 0)) ⟨rfl, rfl⟩ dX5_holds_49 ?_
            refine r_if_ne (tgt := 57) C dX5_holds_52 (by decide) (fun c16 => ?_) (fun c16 => ?_)
            · have h := h.1 c16
              exact wfX5_holds_57 C hZ h
            · have h := h.2 c16
              refine r_iconst (v := (-1)) C dX5_holds_55 (by decide) ?_
              exact r_iret C hZ (u := ()) h rfl dX5_holds_56
        · have h := h.2 c8
          refine r_iconst (v := (-1)) C dX5_holds_40 (by decide) ?_
          exact r_iret C hZ (u := ()) h rfl dX5_holds_41
