def rmX0_loseSome : Room := { frames := 2, cells := 0, slots := 0, locals := 59 }
theorem kwX0_loseSome_0 : Cond.fieldLink RX0 39 "WantsBench$Game" "rowLength" "I" ∈ wsX0_loseSome := by decide +kernel
theorem uwX0_loseSome_0 : ∀ w ∈ wsX00, w ∈ wsX0_loseSome := by decide +kernel
theorem kwX0_loseSome_2 : Cond.fieldLink RX0 23 "WantsBench$Game" "row" "[I" ∈ wsX0_loseSome := by decide +kernel
theorem kwX0_loseSome_3 : Cond.fieldLink RX0 26 "WantsBench$Game" "lost" "[I" ∈ wsX0_loseSome := by decide +kernel
theorem kwX0_loseSome_4 : Cond.fieldLink RX0 35 "WantsBench$Game" "size" "I" ∈ wsX0_loseSome := by decide +kernel
def fX0_loseSome_45 (N : Nat) (G : RS) (v1 : Int32) (v2 : Int32) (v3 : Int32) (v4 : Int32) (k0 : Int64) (R : Int32 → Int32 → RS → Prop) (K : Int32 → RS → Prop) (Q : Int32 → RS → Prop) : Prop :=
  (fX0_firstWithoutOut N k0 (fun r7 => ((8 ≤ r7 → (vp_in v2 1024 ∧ (∀ G10 : RS, G10 = sA G 5 (upd (G.2.1 5) v2.toNatClampNeg v4) → (∀ x11 : Int32, x11 = v2 + 1 → (∀ x12 : Int32, x12 = v3 + 1 → R x11 x12 G10))))) ∧ (¬ 8 ≤ r7 → (vp_in v4 1024 ∧ (∀ G14 : RS, G14 = sA G 7 (upd (G.2.1 7) v4.toNatClampNeg v1) → (∀ x15 : Int32, x15 = v3 + 1 → R v2 x15 G14)))))))
set_option maxRecDepth 100000 in
set_option maxHeartbeats 4000000 in
theorem wfX0_loseSome_45 {x : Nx} {g : Gx} {W0 : va_W} {a : Nat → Nat} {G : RS} {N : Nat} {v1 : Int32} {v2 : Int32} {v3 : Int32} {v4 : Int32} {k0 : Int64} {R : Int32 → Int32 → RS → Prop} {K : Int32 → RS → Prop} {Q : Int32 → RS → Prop} (C : Cx x g cX0_loseSome RX0 wsX0_loseSome rmX0_loseSome yX0_loseSome (some .boolean) 7) (hZ : Zq x g W0 (fun u : RS => gW g a u) (qI (fun (r : Int32) (u : RS) => Q r u)) 0 0) (hR : ∀ (w2 : Int32) (w3 : Int32) (G_ : RS), R w2 w3 G_ → St x 0 0 (gW g a G_) [(0, .ref (a 50)), (1, .int v1), (2, .int w2), (3, .int w3)] [] 4) (hK : ∀ (w2 : Int32) (G_ : RS), K w2 G_ → St x 0 0 (gW g a G_) [(0, .ref (a 50)), (2, .int w2)] [] 85) (h : fX0_loseSome_45 N G v1 v2 v3 v4 k0 R K Q) : St x 0 0 (gW g a G) [(0, .ref (a 50)), (1, .int v1), (2, .int v2), (3, .int v3), (4, .int v4)] [.long k0] 45 := by
  unfold fX0_loseSome_45 at h
  refine r_lstore (lv' := [(0, .ref (a 50)), (1, .int v1), (2, .int v2), (3, .int v3), (4, .int v4), (5, .long k0)]) C dX0_loseSome_45 [some 0, some 1, some 2, some 3, some 4, none] (by decide) rfl rfl ?_
  refine r_lload C dX0_loseSome_47 rfl ?_
  refine callR_I C (run_S (As := [.long k0]) (rest := []) C hZ.2.2 (tX0_firstWithoutOut _ g N k0 _ h) gX0_loseSome_X0_firstWithoutOut rfl dsX0_firstWithoutOut rfl rfl ⟨(Nat.le_of_ble_eq_true rfl), (Nat.le_of_ble_eq_true rfl)⟩ rfl (Nat.le_of_ble_eq_true rfl) dX0_loseSome_49 ⟨Nat.zero_le _, Nat.zero_le _⟩) (List.nil_sublist _) (fun _ => rfl) (fun r7 _ h => ?_)
  refine r_bipush (v := 8) C dX0_loseSome_52 (by decide) ?_
  refine r_icmp_ge (tgt := 68) C dX0_loseSome_54 (by decide) (fun c8 => ?_) (fun c8 => ?_)
  · have h := h.1 c8
    refine r_aload_n C dX0_loseSome_68 rfl ?_
    refine r_get (cn := RX0) (T := TX0) (N := 10) (ci := 0) C uwX0_loseSome_0 0 rfl rfl 5 (by decide) kwX0_loseSome_2 (v := .ref (a 5)) rfl dX0_loseSome_69 ?_
    refine r_iload_n C dX0_loseSome_72 rfl ?_
    refine r_iload C dX0_loseSome_73 rfl ?_
    obtain ⟨hi9, h⟩ := h
    obtain ⟨G10, hG10⟩ : ∃ z : RS, z = sA G 5 (upd (G.2.1 5) v2.toNatClampNeg v4) := ⟨_, rfl⟩
    have h := h G10 hG10
    refine r_iast (ws' := gW g a G10) C 5 rfl hi9 dX0_loseSome_75 (by rw [hG10]; rfl) ?_
    obtain ⟨x11, ex11⟩ : ∃ z : Int32, z = v2 + 1 := ⟨_, rfl⟩
    have h := h x11 ex11
    refine r_iinc (v := x11) (lv' := [(0, .ref (a 50)), (1, .int v1), (2, .int x11), (3, .int v3)]) C dX0_loseSome_76 rfl (by rw [ex11]; rfl) [some 0, some 1, none, some 3] (by decide) rfl rfl ?_
    obtain ⟨x12, ex12⟩ : ∃ z : Int32, z = v3 + 1 := ⟨_, rfl⟩
    have h := h x12 ex12
    refine r_iinc (v := x12) (lv' := [(0, .ref (a 50)), (1, .int v1), (2, .int x11), (3, .int x12)]) C dX0_loseSome_79 rfl (by rw [ex12]; rfl) [some 0, some 1, some 2, none] (by decide) rfl rfl ?_
    refine r_goto (tgt := 4) C dX0_loseSome_82 (by decide) ?_
    exact hR x11 x12 G10 h
  · have h := h.2 c8
    refine r_aload_n C dX0_loseSome_57 rfl ?_
    refine r_get (cn := RX0) (T := TX0) (N := 10) (ci := 0) C uwX0_loseSome_0 0 rfl rfl 7 (by decide) kwX0_loseSome_3 (v := .ref (a 7)) rfl dX0_loseSome_58 ?_
    refine r_iload C dX0_loseSome_61 rfl ?_
    refine r_iload_n C dX0_loseSome_63 rfl ?_
    obtain ⟨hi13, h⟩ := h
    obtain ⟨G14, hG14⟩ : ∃ z : RS, z = sA G 7 (upd (G.2.1 7) v4.toNatClampNeg v1) := ⟨_, rfl⟩
    have h := h G14 hG14
    refine r_iast (ws' := gW g a G14) C 6 rfl hi13 dX0_loseSome_64 (by rw [hG14]; rfl) ?_
    refine r_goto (tgt := 79) C dX0_loseSome_65 (by decide) ?_
    obtain ⟨x15, ex15⟩ : ∃ z : Int32, z = v3 + 1 := ⟨_, rfl⟩
    have h := h x15 ex15
    refine r_iinc (v := x15) (lv' := [(0, .ref (a 50)), (1, .int v1), (2, .int v2), (3, .int x15)]) C dX0_loseSome_79 rfl (by rw [ex15]; rfl) [some 0, some 1, some 2, none] (by decide) rfl rfl ?_
    refine r_goto (tgt := 4) C dX0_loseSome_82 (by decide) ?_
    exact hR v2 x15 G14 h
def fX0_loseSome_4b (N : Nat) (G : RS) (v1 : Int32) (v2 : Int32) (v3 : Int32) (R : Int32 → Int32 → RS → Prop) (K : Int32 → RS → Prop) (Q : Int32 → RS → Prop) : Prop :=
  (((G.1 6) ≤ v3 → K v2 G) ∧ (¬ (G.1 6) ≤ v3 → (vp_in v3 1024 ∧ (∀ x3 : Int32, x3 = G.2.1 5 v3.toNatClampNeg → ((¬ v1 = 1 → (fX0_openBefore N G x3 v1 (fun r5 G6 => (fX0_loseSome_45 N G6 v1 v2 v3 x3 r5 R K Q)))) ∧ (v1 = 1 → (fX0_unbroken N G x3 (G.1 0) (fun r16 => (fX0_loseSome_45 N G v1 v2 v3 x3 r16 R K Q)))))))))
set_option maxRecDepth 100000 in
set_option maxHeartbeats 4000000 in
theorem wfX0_loseSome_4b {x : Nx} {g : Gx} {W0 : va_W} {a : Nat → Nat} {G : RS} {N : Nat} {v1 : Int32} {v2 : Int32} {v3 : Int32} {R : Int32 → Int32 → RS → Prop} {K : Int32 → RS → Prop} {Q : Int32 → RS → Prop} (C : Cx x g cX0_loseSome RX0 wsX0_loseSome rmX0_loseSome yX0_loseSome (some .boolean) 7) (hZ : Zq x g W0 (fun u : RS => gW g a u) (qI (fun (r : Int32) (u : RS) => Q r u)) 0 0) (hR : ∀ (w2 : Int32) (w3 : Int32) (G_ : RS), R w2 w3 G_ → St x 0 0 (gW g a G_) [(0, .ref (a 50)), (1, .int v1), (2, .int w2), (3, .int w3)] [] 4) (hK : ∀ (w2 : Int32) (G_ : RS), K w2 G_ → St x 0 0 (gW g a G_) [(0, .ref (a 50)), (2, .int w2)] [] 85) (h : fX0_loseSome_4b N G v1 v2 v3 R K Q) : St x 0 0 (gW g a G) [(0, .ref (a 50)), (1, .int v1), (2, .int v2), (3, .int v3)] [] 4 := by
  unfold fX0_loseSome_4b at h
  refine r_iload_n C dX0_loseSome_4 rfl ?_
  refine r_aload_n C dX0_loseSome_5 rfl ?_
  refine r_get (cn := RX0) (T := TX0) (N := 10) (ci := 0) C uwX0_loseSome_0 0 rfl rfl 6 (by decide) kwX0_loseSome_0 (v := .int (G.1 6)) rfl dX0_loseSome_6 ?_
  refine r_icmp_ge (tgt := 85) C dX0_loseSome_9 (by decide) (fun c1 => ?_) (fun c1 => ?_)
  · have h := h.1 c1
    refine r_sub [0, 2] (lv' := [(0, .ref (a 50)), (2, .int v2)]) rfl ?_
    exact hK v2 G h
  · have h := h.2 c1
    refine r_aload_n C dX0_loseSome_12 rfl ?_
    refine r_get (cn := RX0) (T := TX0) (N := 10) (ci := 0) C uwX0_loseSome_0 0 rfl rfl 5 (by decide) kwX0_loseSome_2 (v := .ref (a 5)) rfl dX0_loseSome_13 ?_
    refine r_iload_n C dX0_loseSome_16 rfl ?_
    obtain ⟨hi2, h⟩ := h
    refine r_iald C 5 rfl hi2 dX0_loseSome_17 ?_
    refine r_topi (fun x3 ex3 => ?_)
    have h := h x3 ex3
    refine r_istore (lv' := [(0, .ref (a 50)), (1, .int v1), (2, .int v2), (3, .int v3), (4, .int x3)]) C dX0_loseSome_18 [some 0, some 1, some 2, some 3, none] (by decide) rfl rfl ?_
    refine r_iload_n C dX0_loseSome_20 rfl ?_
    refine r_iconst (v := 1) C dX0_loseSome_21 (by decide) ?_
    refine r_icmp_ne (tgt := 38) C dX0_loseSome_22 (by decide) (fun c4 => ?_) (fun c4 => ?_)
    · have h := h.1 c4
      refine r_aload_n C dX0_loseSome_38 rfl ?_
      refine r_iload C dX0_loseSome_39 rfl ?_
      refine r_iload_n C dX0_loseSome_41 rfl ?_
      refine callW_L C (run_V (As := [.int x3, .int v1]) (rest := []) (ci := 0) C hZ.2.2 (tX0_openBefore _ g a G N x3 v1 _ h) gX0_loseSome_X0_openBefore rfl dsX0_openBefore rfl rfl ⟨(Nat.le_of_ble_eq_true rfl), (Nat.le_of_ble_eq_true rfl)⟩ rfl (List.mem_of_getElem? (i := 0) rfl) rfl (Nat.le_of_ble_eq_true rfl) dX0_loseSome_42 ⟨Nat.zero_le _, Nat.zero_le _⟩) (fun r5 G6 h => ?_)
      show St x 0 0 (gW g a G6) _ _ 45
      exact wfX0_loseSome_45 C hZ hR hK h
    · have h := h.2 c4
      refine r_aload_n C dX0_loseSome_25 rfl ?_
      refine r_iload C dX0_loseSome_26 rfl ?_
      refine r_aload_n C dX0_loseSome_28 rfl ?_
      refine r_get (cn := RX0) (T := TX0) (N := 10) (ci := 0) C uwX0_loseSome_0 0 rfl rfl 0 (by decide) kwX0_loseSome_4 (v := .int (G.1 0)) rfl dX0_loseSome_29 ?_
      refine callR_L C (run_V (As := [.int x3, .int (G.1 0)]) (rest := []) (ci := 0) C hZ.2.2 (tX0_unbroken _ g a G N x3 (G.1 0) _ h) gX0_loseSome_X0_unbroken rfl dsX0_unbroken rfl rfl ⟨(Nat.le_of_ble_eq_true rfl), (Nat.le_of_ble_eq_true rfl)⟩ rfl (List.mem_of_getElem? (i := 0) rfl) rfl (Nat.le_of_ble_eq_true rfl) dX0_loseSome_32 ⟨Nat.zero_le _, Nat.zero_le _⟩) (List.Sublist.refl _) (fun _ => rfl) (fun r16 _ h => ?_)
      refine r_goto (tgt := 45) C dX0_loseSome_35 (by decide) ?_
      exact wfX0_loseSome_45 C hZ hR hK h
def fX0_loseSome_4 (N : Nat) (v1 : Int32) (K : Int32 → RS → Prop) (Q : Int32 → RS → Prop) : Nat → Int32 → Int32 → RS → Prop
  | 0, _, _, _ => False
  | n + 1, v2, v3, G => fX0_loseSome_4b N G v1 v2 v3 (fun v2 v3 G => fX0_loseSome_4 N v1 K Q n v2 v3 G) K Q
set_option maxRecDepth 100000 in
set_option maxHeartbeats 4000000 in
theorem wfX0_loseSome_4 {x : Nx} {g : Gx} {W0 : va_W} {a : Nat → Nat}  {N : Nat} {v1 : Int32} {K : Int32 → RS → Prop} {Q : Int32 → RS → Prop} (C : Cx x g cX0_loseSome RX0 wsX0_loseSome rmX0_loseSome yX0_loseSome (some .boolean) 7) (hZ : Zq x g W0 (fun u : RS => gW g a u) (qI (fun (r : Int32) (u : RS) => Q r u)) 0 0) (hK : ∀ (w2 : Int32) (G_ : RS), K w2 G_ → St x 0 0 (gW g a G_) [(0, .ref (a 50)), (2, .int w2)] [] 85) : ∀ (n : Nat) (v2 : Int32) (v3 : Int32) (G : RS), fX0_loseSome_4 N v1 K Q n v2 v3 G → St x 0 0 (gW g a G) [(0, .ref (a 50)), (1, .int v1), (2, .int v2), (3, .int v3)] [] 4 := by
  intro n
  induction n with
  | zero => intro v2 v3 G h; exact False.elim h
  | succ n ih => intro v2 v3 G h; exact wfX0_loseSome_4b C hZ ih hK h
def fX0_loseSome_98 (N : Nat) (G : RS) (v2 : Int32) (k0 : Int32) (Q : Int32 → RS → Prop) : Prop :=
  (∀ G20 : RS, G20 = sI G 6 v2 → (narrow .boolean (.int k0) = .int k0 ∧ Q k0 G20))
set_option maxRecDepth 100000 in
set_option maxHeartbeats 4000000 in
theorem wfX0_loseSome_98 {x : Nx} {g : Gx} {W0 : va_W} {a : Nat → Nat} {G : RS} {N : Nat} {v2 : Int32} {k0 : Int32} {Q : Int32 → RS → Prop} (C : Cx x g cX0_loseSome RX0 wsX0_loseSome rmX0_loseSome yX0_loseSome (some .boolean) 7) (hZ : Zq x g W0 (fun u : RS => gW g a u) (qI (fun (r : Int32) (u : RS) => Q r u)) 0 0) (h : fX0_loseSome_98 N G v2 k0 Q) : St x 0 0 (gW g a G) [(0, .ref (a 50)), (2, .int v2)] [.int k0] 98 := by
  unfold fX0_loseSome_98 at h
  refine r_istore_n (lv' := [(0, .ref (a 50)), (2, .int v2), (3, .int k0)]) C dX0_loseSome_98 [some 0, some 1, none] (by decide) rfl rfl ?_
  refine r_aload_n C dX0_loseSome_99 rfl ?_
  refine r_iload_n C dX0_loseSome_100 rfl ?_
  obtain ⟨G20, hG20⟩ : ∃ z : RS, z = sI G 6 v2 := ⟨_, rfl⟩
  have h := h G20 hG20
  refine r_put (cn := RX0) (T := TX0) (N := 10) (ci := 0) (ws' := gW g a G20) C uwX0_loseSome_0 tyX0 tyX0_ok nmX0 0 rfl rfl 6 (by decide) kwX0_loseSome_0 rfl rfl rfl (Nat.le_of_ble_eq_true rfl) dX0_loseSome_101 (by rw [hG20]; rfl) ?_
  refine r_iload_n C dX0_loseSome_104 rfl ?_
  exact r_zret C hZ (u := G20) h.1 h.2 rfl dX0_loseSome_105
def fX0_loseSome (N : Nat) (G : RS) (v1 : Int32) (Q : Int32 → RS → Prop) : Prop :=
  (fX0_loseSome_4 N v1 (fun x17 G18 => (((G18.1 6) ≤ x17 → (fX0_loseSome_98 N G18 x17 0 Q)) ∧ (¬ (G18.1 6) ≤ x17 → (fX0_loseSome_98 N G18 x17 1 Q)))) Q N 0 0 G)
set_option maxRecDepth 100000 in
set_option maxHeartbeats 4000000 in
theorem tX0_loseSome (l : Launch) (g : Gx) (a : Nat → Nat) (G : RS) (N : Nat) (v1 : Int32) (Q : Int32 → RS → Prop) (h : fX0_loseSome N G v1 Q) : MetG l g yX0_loseSome wsX0_loseSome rmX0_loseSome [.ref (a 50), .int v1] (gW g a G) (fun u : RS => gW g a u) (qI (fun (r : Int32) (u : RS) => Q r u)) 0 0 := by
  refine met_of (cc := cX0_loseSome) (own := RX0) (nL := 7) (ret := (some .boolean)) (lv := [(0, .ref (a 50)), (1, .int v1)]) (by decide) rfl rfl (Nat.le_of_ble_eq_true rfl) rfl ?_
  intro x C hl hZ
  subst hl
  unfold fX0_loseSome at h
  refine r_iconst (v := 0) C dX0_loseSome_0 (by decide) ?_
  refine r_istore_n (lv' := [(0, .ref (a 50)), (1, .int v1), (2, .int 0)]) C dX0_loseSome_1 [some 0, some 1, none] (by decide) rfl rfl ?_
  refine r_iconst (v := 0) C dX0_loseSome_2 (by decide) ?_
  refine r_istore_n (lv' := [(0, .ref (a 50)), (1, .int v1), (2, .int 0), (3, .int 0)]) C dX0_loseSome_3 [some 0, some 1, some 2, none] (by decide) rfl rfl ?_
  refine wfX0_loseSome_4 C hZ (fun x17 G18 h => ?_) N _ _ _ h
  refine r_iload_n C dX0_loseSome_85 rfl ?_
  refine r_aload_n C dX0_loseSome_86 rfl ?_
  refine r_get (cn := RX0) (T := TX0) (N := 10) (ci := 0) C uwX0_loseSome_0 0 rfl rfl 6 (by decide) kwX0_loseSome_0 (v := .int (G18.1 6)) rfl dX0_loseSome_87 ?_
  refine r_icmp_ge (tgt := 97) C dX0_loseSome_90 (by decide) (fun c19 => ?_) (fun c19 => ?_)
  · have h := h.1 c19
    refine r_iconst (v := 0) C dX0_loseSome_97 (by decide) ?_
    exact wfX0_loseSome_98 C hZ h
  · have h := h.2 c19
    refine r_iconst (v := 1) C dX0_loseSome_93 (by decide) ?_
    refine r_goto (tgt := 98) C dX0_loseSome_94 (by decide) ?_
    exact wfX0_loseSome_98 C hZ h
def rmX0_solve : Room := { frames := 3, cells := 0, slots := 0, locals := 85 }
theorem kwX0_solve_0 : Cond.fieldLink RX0 39 "WantsBench$Game" "rowLength" "I" ∈ wsX0_solve := by decide +kernel
theorem uwX0_solve_0 : ∀ w ∈ wsX00, w ∈ wsX0_solve := by decide +kernel
theorem kwX0_solve_2 : Cond.fieldLink RX0 26 "WantsBench$Game" "lost" "[I" ∈ wsX0_solve := by decide +kernel
theorem kwX0_solve_3 : Cond.fieldLink RX0 23 "WantsBench$Game" "row" "[I" ∈ wsX0_solve := by decide +kernel
def fX0_solve_2b (N : Nat) (G : RS) (v1 : Int32) (v2 : Int32) (R : Int32 → RS → Prop) (K : RS → Prop) (Q : RS → Prop) : Prop :=
  (((G.1 6) ≤ v2 → K G) ∧ (¬ (G.1 6) ≤ v2 → (vp_in v2 1024 ∧ (vp_in (G.2.1 5 v2.toNatClampNeg) 1024 ∧ (∀ G4 : RS, G4 = sA G 7 (upd (G.2.1 7) (G.2.1 5 v2.toNatClampNeg).toNatClampNeg 0) → (∀ x5 : Int32, x5 = v2 + 1 → R x5 G4))))))
set_option maxRecDepth 100000 in
set_option maxHeartbeats 4000000 in
theorem wfX0_solve_2b {x : Nx} {g : Gx} {W0 : va_W} {a : Nat → Nat} {G : RS} {N : Nat} {v1 : Int32} {v2 : Int32} {R : Int32 → RS → Prop} {K : RS → Prop} {Q : RS → Prop} (C : Cx x g cX0_solve RX0 wsX0_solve rmX0_solve yX0_solve none 4) (hZ : Zq x g W0 (fun u : RS => gW g a u) (qV (fun u : RS => Q u)) 0 0) (hR : ∀ (w2 : Int32) (G_ : RS), R w2 G_ → St x 0 0 (gW g a G_) [(0, .ref (a 50)), (1, .int v1), (2, .int w2)] [] 2) (hK : ∀ (G_ : RS), K G_ → St x 0 0 (gW g a G_) [(0, .ref (a 50)), (1, .int v1)] [] 28) (h : fX0_solve_2b N G v1 v2 R K Q) : St x 0 0 (gW g a G) [(0, .ref (a 50)), (1, .int v1), (2, .int v2)] [] 2 := by
  unfold fX0_solve_2b at h
  refine r_iload_n C dX0_solve_2 rfl ?_
  refine r_aload_n C dX0_solve_3 rfl ?_
  refine r_get (cn := RX0) (T := TX0) (N := 10) (ci := 0) C uwX0_solve_0 0 rfl rfl 6 (by decide) kwX0_solve_0 (v := .int (G.1 6)) rfl dX0_solve_4 ?_
  refine r_icmp_ge (tgt := 28) C dX0_solve_7 (by decide) (fun c1 => ?_) (fun c1 => ?_)
  · have h := h.1 c1
    refine r_sub [0, 1] (lv' := [(0, .ref (a 50)), (1, .int v1)]) rfl ?_
    exact hK G h
  · have h := h.2 c1
    refine r_aload_n C dX0_solve_10 rfl ?_
    refine r_get (cn := RX0) (T := TX0) (N := 10) (ci := 0) C uwX0_solve_0 0 rfl rfl 7 (by decide) kwX0_solve_2 (v := .ref (a 7)) rfl dX0_solve_11 ?_
    refine r_aload_n C dX0_solve_14 rfl ?_
    refine r_get (cn := RX0) (T := TX0) (N := 10) (ci := 0) C uwX0_solve_0 0 rfl rfl 5 (by decide) kwX0_solve_3 (v := .ref (a 5)) rfl dX0_solve_15 ?_
    refine r_iload_n C dX0_solve_18 rfl ?_
    obtain ⟨hi2, h⟩ := h
    refine r_iald C 5 rfl hi2 dX0_solve_19 ?_
    refine r_iconst (v := 0) C dX0_solve_20 (by decide) ?_
    obtain ⟨hi3, h⟩ := h
    obtain ⟨G4, hG4⟩ : ∃ z : RS, z = sA G 7 (upd (G.2.1 7) (G.2.1 5 v2.toNatClampNeg).toNatClampNeg 0) := ⟨_, rfl⟩
    have h := h G4 hG4
    refine r_iast (ws' := gW g a G4) C 6 rfl hi3 dX0_solve_21 (by rw [hG4]; rfl) ?_
    obtain ⟨x5, ex5⟩ : ∃ z : Int32, z = v2 + 1 := ⟨_, rfl⟩
    have h := h x5 ex5
    refine r_iinc (v := x5) (lv' := [(0, .ref (a 50)), (1, .int v1), (2, .int x5)]) C dX0_solve_22 rfl (by rw [ex5]; rfl) [some 0, some 1, none] (by decide) rfl rfl ?_
    refine r_goto (tgt := 2) C dX0_solve_25 (by decide) ?_
    exact hR x5 G4 h
def fX0_solve_2 (N : Nat) (v1 : Int32) (K : RS → Prop) (Q : RS → Prop) : Nat → Int32 → RS → Prop
  | 0, _, _ => False
  | n + 1, v2, G => fX0_solve_2b N G v1 v2 (fun v2 G => fX0_solve_2 N v1 K Q n v2 G) K Q
set_option maxRecDepth 100000 in
set_option maxHeartbeats 4000000 in
theorem wfX0_solve_2 {x : Nx} {g : Gx} {W0 : va_W} {a : Nat → Nat}  {N : Nat} {v1 : Int32} {K : RS → Prop} {Q : RS → Prop} (C : Cx x g cX0_solve RX0 wsX0_solve rmX0_solve yX0_solve none 4) (hZ : Zq x g W0 (fun u : RS => gW g a u) (qV (fun u : RS => Q u)) 0 0) (hK : ∀ (G_ : RS), K G_ → St x 0 0 (gW g a G_) [(0, .ref (a 50)), (1, .int v1)] [] 28) : ∀ (n : Nat) (v2 : Int32) (G : RS), fX0_solve_2 N v1 K Q n v2 G → St x 0 0 (gW g a G) [(0, .ref (a 50)), (1, .int v1), (2, .int v2)] [] 2 := by
  intro n
  induction n with
  | zero => intro v2 G h; exact False.elim h
  | succ n ih => intro v2 G h; exact wfX0_solve_2b C hZ ih hK h
def fX0_solve_30b (N : Nat) (G : RS) (v1 : Int32) (v2 : Int32) (R : Int32 → RS → Prop) (K : RS → Prop) (Q : RS → Prop) : Prop :=
  ((1024 < v2 → K G) ∧ (¬ 1024 < v2 → (fX0_loseSome N G v2 (fun r8 G9 => ((r8 = 0 → Q G9) ∧ (¬ r8 = 0 → ((¬ v1 = 0 → (∀ x12 : Int32, x12 = v2 + 1 → R x12 G9)) ∧ (v1 = 0 → (vp_in 0 1024 ∧ (((G9.2.1 7 (0 : Int32).toNatClampNeg) = 0 → (∀ x15 : Int32, x15 = v2 + 1 → R x15 G9)) ∧ (¬ (G9.2.1 7 (0 : Int32).toNatClampNeg) = 0 → Q G9)))))))))))
set_option maxRecDepth 100000 in
set_option maxHeartbeats 4000000 in
theorem wfX0_solve_30b {x : Nx} {g : Gx} {W0 : va_W} {a : Nat → Nat} {G : RS} {N : Nat} {v1 : Int32} {v2 : Int32} {R : Int32 → RS → Prop} {K : RS → Prop} {Q : RS → Prop} (C : Cx x g cX0_solve RX0 wsX0_solve rmX0_solve yX0_solve none 4) (hZ : Zq x g W0 (fun u : RS => gW g a u) (qV (fun u : RS => Q u)) 0 0) (hR : ∀ (w2 : Int32) (G_ : RS), R w2 G_ → St x 0 0 (gW g a G_) [(0, .ref (a 50)), (1, .int v1), (2, .int w2)] [] 30) (hK : ∀ (G_ : RS), K G_ → St x 0 0 (gW g a G_) [] [] 67) (h : fX0_solve_30b N G v1 v2 R K Q) : St x 0 0 (gW g a G) [(0, .ref (a 50)), (1, .int v1), (2, .int v2)] [] 30 := by
  unfold fX0_solve_30b at h
  refine r_iload_n C dX0_solve_30 rfl ?_
  refine r_sipush (v := 1024) C dX0_solve_31 (by decide) ?_
  refine r_icmp_gt (tgt := 67) C dX0_solve_34 (by decide) (fun c7 => ?_) (fun c7 => ?_)
  · have h := h.1 c7
    refine r_sub [] (lv' := []) rfl ?_
    exact hK G h
  · have h := h.2 c7
    refine r_aload_n C dX0_solve_37 rfl ?_
    refine r_iload_n C dX0_solve_38 rfl ?_
    refine callW_I C (run_V (As := [.int v2]) (rest := []) (ci := 0) C hZ.2.2 (tX0_loseSome _ g a G N v2 _ h) gX0_solve_X0_loseSome rfl dsX0_loseSome rfl rfl ⟨(Nat.le_of_ble_eq_true rfl), (Nat.le_of_ble_eq_true rfl)⟩ rfl (List.mem_of_getElem? (i := 0) rfl) rfl (Nat.le_of_ble_eq_true rfl) dX0_solve_39 ⟨Nat.zero_le _, Nat.zero_le _⟩) (fun r8 G9 h => ?_)
    show St x 0 0 (gW g a G9) _ _ 42
    refine r_istore_n (lv' := [(0, .ref (a 50)), (1, .int v1), (2, .int v2), (3, .int r8)]) C dX0_solve_42 [some 0, some 1, some 2, none] (by decide) rfl rfl ?_
    refine r_iload_n C dX0_solve_43 rfl ?_
    refine r_if_eq (tgt := 60) C dX0_solve_44 (by decide) (fun c10 => ?_) (fun c10 => ?_)
    · have h := h.1 c10
      exact r_vret C hZ (u := G9) h rfl dX0_solve_60
    · have h := h.2 c10
      refine r_iload_n C dX0_solve_47 rfl ?_
      refine r_if_ne (tgt := 61) C dX0_solve_48 (by decide) (fun c11 => ?_) (fun c11 => ?_)
      · have h := h.1 c11
        obtain ⟨x12, ex12⟩ : ∃ z : Int32, z = v2 + 1 := ⟨_, rfl⟩
        have h := h x12 ex12
        refine r_iinc (v := x12) (lv' := [(0, .ref (a 50)), (1, .int v1), (2, .int x12)]) C dX0_solve_61 rfl (by rw [ex12]; rfl) [some 0, some 1, none] (by decide) rfl rfl ?_
        refine r_goto (tgt := 30) C dX0_solve_64 (by decide) ?_
        exact hR x12 G9 h
      · have h := h.2 c11
        refine r_aload_n C dX0_solve_51 rfl ?_
        refine r_get (cn := RX0) (T := TX0) (N := 10) (ci := 0) C uwX0_solve_0 0 rfl rfl 7 (by decide) kwX0_solve_2 (v := .ref (a 7)) rfl dX0_solve_52 ?_
        refine r_iconst (v := 0) C dX0_solve_55 (by decide) ?_
        obtain ⟨hi13, h⟩ := h
        refine r_iald C 6 rfl hi13 dX0_solve_56 ?_
        refine r_if_eq (tgt := 61) C dX0_solve_57 (by decide) (fun c14 => ?_) (fun c14 => ?_)
        · have h := h.1 c14
          obtain ⟨x15, ex15⟩ : ∃ z : Int32, z = v2 + 1 := ⟨_, rfl⟩
          have h := h x15 ex15
          refine r_iinc (v := x15) (lv' := [(0, .ref (a 50)), (1, .int v1), (2, .int x15)]) C dX0_solve_61 rfl (by rw [ex15]; rfl) [some 0, some 1, none] (by decide) rfl rfl ?_
          refine r_goto (tgt := 30) C dX0_solve_64 (by decide) ?_
          exact hR x15 G9 h
        · have h := h.2 c14
          exact r_vret C hZ (u := G9) h rfl dX0_solve_60
def fX0_solve_30 (N : Nat) (v1 : Int32) (K : RS → Prop) (Q : RS → Prop) : Nat → Int32 → RS → Prop
  | 0, _, _ => False
  | n + 1, v2, G => fX0_solve_30b N G v1 v2 (fun v2 G => fX0_solve_30 N v1 K Q n v2 G) K Q
set_option maxRecDepth 100000 in
set_option maxHeartbeats 4000000 in
theorem wfX0_solve_30 {x : Nx} {g : Gx} {W0 : va_W} {a : Nat → Nat}  {N : Nat} {v1 : Int32} {K : RS → Prop} {Q : RS → Prop} (C : Cx x g cX0_solve RX0 wsX0_solve rmX0_solve yX0_solve none 4) (hZ : Zq x g W0 (fun u : RS => gW g a u) (qV (fun u : RS => Q u)) 0 0) (hK : ∀ (G_ : RS), K G_ → St x 0 0 (gW g a G_) [] [] 67) : ∀ (n : Nat) (v2 : Int32) (G : RS), fX0_solve_30 N v1 K Q n v2 G → St x 0 0 (gW g a G) [(0, .ref (a 50)), (1, .int v1), (2, .int v2)] [] 30 := by
  intro n
  induction n with
  | zero => intro v2 G h; exact False.elim h
  | succ n ih => intro v2 G h; exact wfX0_solve_30b C hZ ih hK h
def fX0_solve (N : Nat) (G : RS) (v1 : Int32) (Q : RS → Prop) : Prop :=
  (fX0_solve_2 N v1 (fun G6 => (fX0_solve_30 N v1 (fun G16 => Q G16) Q N 1 G6)) Q N 0 G)
set_option maxRecDepth 100000 in
set_option maxHeartbeats 4000000 in
theorem tX0_solve (l : Launch) (g : Gx) (a : Nat → Nat) (G : RS) (N : Nat) (v1 : Int32) (Q : RS → Prop) (h : fX0_solve N G v1 Q) : MetG l g yX0_solve wsX0_solve rmX0_solve [.ref (a 50), .int v1] (gW g a G) (fun u : RS => gW g a u) (qV (fun u : RS => Q u)) 0 0 := by
  refine met_of (cc := cX0_solve) (own := RX0) (nL := 4) (ret := none) (lv := [(0, .ref (a 50)), (1, .int v1)]) (by decide) rfl rfl (Nat.le_of_ble_eq_true rfl) rfl ?_
  intro x C hl hZ
  subst hl
  unfold fX0_solve at h
  refine r_iconst (v := 0) C dX0_solve_0 (by decide) ?_
  refine r_istore_n (lv' := [(0, .ref (a 50)), (1, .int v1), (2, .int 0)]) C dX0_solve_1 [some 0, some 1, none] (by decide) rfl rfl ?_
  refine wfX0_solve_2 C hZ (fun G6 h => ?_) N _ _ h
  refine r_iconst (v := 1) C dX0_solve_28 (by decide) ?_
  refine r_istore_n (lv' := [(0, .ref (a 50)), (1, .int v1), (2, .int 1)]) C dX0_solve_29 [some 0, some 1, none] (by decide) rfl rfl ?_
  refine wfX0_solve_30 C hZ (fun G16 h => ?_) N _ _ h
  exact r_vret C hZ (u := G16) h rfl dX0_solve_67
def rmX0_safePlaces : Room := { frames := 0, cells := 0, slots := 0, locals := 0 }
theorem kwX0_safePlaces_0 : Cond.fieldLink RX0 39 "WantsBench$Game" "rowLength" "I" ∈ wsX0_safePlaces := by decide +kernel
theorem uwX0_safePlaces_0 : ∀ w ∈ wsX00, w ∈ wsX0_safePlaces := by decide +kernel
def fX0_safePlaces (N : Nat) (G : RS) (Q : Int32 → Prop) : Prop :=
  Q (G.1 6)
set_option maxRecDepth 100000 in
set_option maxHeartbeats 4000000 in
theorem tX0_safePlaces (l : Launch) (g : Gx) (a : Nat → Nat) (G : RS) (N : Nat) (Q : Int32 → Prop) (h : fX0_safePlaces N G Q) : MetG l g yX0_safePlaces wsX0_safePlaces rmX0_safePlaces [.ref (a 50)] (gW g a G) (fun _ : Unit => gW g a G) (qI (fun (r : Int32) (_ : Unit) => Q r)) 0 0 := by
  refine met_of (cc := cX0_safePlaces) (own := RX0) (nL := 1) (ret := (some .int)) (lv := [(0, .ref (a 50))]) (by decide) rfl rfl (Nat.le_of_ble_eq_true rfl) rfl ?_
  intro x C hl hZ
  subst hl
  unfold fX0_safePlaces at h
  refine r_aload_n C dX0_safePlaces_0 rfl ?_
  refine r_get (cn := RX0) (T := TX0) (N := 10) (ci := 0) C uwX0_safePlaces_0 0 rfl rfl 6 (by decide) kwX0_safePlaces_0 (v := .int (G.1 6)) rfl dX0_safePlaces_1 ?_
  exact r_iret C hZ (u := ()) h rfl dX0_safePlaces_4
def rmX0_isPlace : Room := { frames := 0, cells := 0, slots := 0, locals := 0 }
def fX0_isPlace (N : Nat) (v0 : Int32) (Q : Int32 → Prop) : Prop :=
  ((v0 < 0 → Q 0) ∧ (¬ v0 < 0 → ((1024 ≤ v0 → Q 0) ∧ (¬ 1024 ≤ v0 → Q 1))))
set_option maxRecDepth 100000 in
set_option maxHeartbeats 4000000 in
theorem tX0_isPlace (l : Launch) (g : Gx) (N : Nat) (v0 : Int32) (Q : Int32 → Prop) (h : fX0_isPlace N v0 Q) : MetG l g yX0_isPlace wsX0_isPlace rmX0_isPlace [.int v0] (([] : va_W)) (fun _ : Unit => ([] : va_W)) (qI (fun (r : Int32) (_ : Unit) => Q r)) 0 0 := by
  refine met_of (cc := cX0_isPlace) (own := RX0) (nL := 1) (ret := (some .boolean)) (lv := [(0, .int v0)]) (by decide) rfl rfl (Nat.le_of_ble_eq_true rfl) rfl ?_
  intro x C hl hZ
  subst hl
  unfold fX0_isPlace at h
  refine r_iload_n C dX0_isPlace_0 rfl ?_
  refine r_if_lt (tgt := 15) C dX0_isPlace_1 (by decide) (fun c1 => ?_) (fun c1 => ?_)
  · have h := h.1 c1
    refine r_iconst (v := 0) C dX0_isPlace_15 (by decide) ?_
    exact r_zret C hZ (u := ()) (by decide) h rfl dX0_isPlace_16
  · have h := h.2 c1
    refine r_iload_n C dX0_isPlace_4 rfl ?_
    refine r_sipush (v := 1024) C dX0_isPlace_5 (by decide) ?_
    refine r_icmp_ge (tgt := 15) C dX0_isPlace_8 (by decide) (fun c2 => ?_) (fun c2 => ?_)
    · have h := h.1 c2
      refine r_iconst (v := 0) C dX0_isPlace_15 (by decide) ?_
      exact r_zret C hZ (u := ()) (by decide) h rfl dX0_isPlace_16
    · have h := h.2 c2
      refine r_iconst (v := 1) C dX0_isPlace_11 (by decide) ?_
      refine r_goto (tgt := 16) C dX0_isPlace_12 (by decide) ?_
      exact r_zret C hZ (u := ()) (by decide) h rfl dX0_isPlace_16
def rmX0_lostIn : Room := { frames := 1, cells := 0, slots := 0, locals := 20 }
theorem kwX0_lostIn_0 : Cond.fieldLink RX0 26 "WantsBench$Game" "lost" "[I" ∈ wsX0_lostIn := by decide +kernel
theorem uwX0_lostIn_0 : ∀ w ∈ wsX00, w ∈ wsX0_lostIn := by decide +kernel
def fX0_lostIn (N : Nat) (G : RS) (v1 : Int32) (Q : Int32 → Prop) : Prop :=
  (fX0_isPlace N v1 (fun r1 => ((r1 = 0 → Q 0) ∧ (¬ r1 = 0 → (vp_in v1 1024 ∧ Q (G.2.1 7 v1.toNatClampNeg))))))
set_option maxRecDepth 100000 in
set_option maxHeartbeats 4000000 in
theorem tX0_lostIn (l : Launch) (g : Gx) (a : Nat → Nat) (G : RS) (N : Nat) (v1 : Int32) (Q : Int32 → Prop) (h : fX0_lostIn N G v1 Q) : MetG l g yX0_lostIn wsX0_lostIn rmX0_lostIn [.ref (a 50), .int v1] (gW g a G) (fun _ : Unit => gW g a G) (qI (fun (r : Int32) (_ : Unit) => Q r)) 0 0 := by
  refine met_of (cc := cX0_lostIn) (own := RX0) (nL := 2) (ret := (some .int)) (lv := [(0, .ref (a 50)), (1, .int v1)]) (by decide) rfl rfl (Nat.le_of_ble_eq_true rfl) rfl ?_
  intro x C hl hZ
  subst hl
  unfold fX0_lostIn at h
  refine r_iload_n C dX0_lostIn_0 rfl ?_
  refine callR_I C (run_S (As := [.int v1]) (rest := []) C hZ.2.2 (tX0_isPlace _ g N v1 _ h) gX0_lostIn_X0_isPlace rfl dsX0_isPlace rfl rfl ⟨(Nat.le_of_ble_eq_true rfl), (Nat.le_of_ble_eq_true rfl)⟩ rfl (Nat.le_of_ble_eq_true rfl) dX0_lostIn_1 ⟨Nat.zero_le _, Nat.zero_le _⟩) (List.nil_sublist _) (fun _ => rfl) (fun r1 _ h => ?_)
  refine r_if_eq (tgt := 16) C dX0_lostIn_4 (by decide) (fun c2 => ?_) (fun c2 => ?_)
  · have h := h.1 c2
    refine r_iconst (v := 0) C dX0_lostIn_16 (by decide) ?_
    exact r_iret C hZ (u := ()) h rfl dX0_lostIn_17
  · have h := h.2 c2
    refine r_aload_n C dX0_lostIn_7 rfl ?_
    refine r_get (cn := RX0) (T := TX0) (N := 10) (ci := 0) C uwX0_lostIn_0 0 rfl rfl 7 (by decide) kwX0_lostIn_0 (v := .ref (a 7)) rfl dX0_lostIn_8 ?_
    refine r_iload_n C dX0_lostIn_11 rfl ?_
    obtain ⟨hi3, h⟩ := h
    refine r_iald C 6 rfl hi3 dX0_lostIn_12 ?_
    refine r_goto (tgt := 17) C dX0_lostIn_13 (by decide) ?_
    exact r_iret C hZ (u := ()) h rfl dX0_lostIn_17
def rmX0_winningIn : Room := { frames := 2, cells := 0, slots := 0, locals := 59 }
theorem kwX0_winningIn_0 : Cond.fieldLink RX0 26 "WantsBench$Game" "lost" "[I" ∈ wsX0_winningIn := by decide +kernel
theorem uwX0_winningIn_0 : ∀ w ∈ wsX00, w ∈ wsX0_winningIn := by decide +kernel
def fX0_winningIn (N : Nat) (G : RS) (v1 : Int32) (Q : Int32 → RS → Prop) : Prop :=
  (fX0_isPlace N v1 (fun r1 => ((r1 = 0 → Q 8 G) ∧ (¬ r1 = 0 → (vp_in v1 1024 ∧ (fX0_openBefore N G v1 (G.2.1 7 v1.toNatClampNeg) (fun r4 G5 => (fX0_firstWithoutOut N r4 (fun r6 => Q r6 G5)))))))))
set_option maxRecDepth 100000 in
set_option maxHeartbeats 4000000 in
theorem tX0_winningIn (l : Launch) (g : Gx) (a : Nat → Nat) (G : RS) (N : Nat) (v1 : Int32) (Q : Int32 → RS → Prop) (h : fX0_winningIn N G v1 Q) : MetG l g yX0_winningIn wsX0_winningIn rmX0_winningIn [.ref (a 50), .int v1] (gW g a G) (fun u : RS => gW g a u) (qI (fun (r : Int32) (u : RS) => Q r u)) 0 0 := by
  refine met_of (cc := cX0_winningIn) (own := RX0) (nL := 2) (ret := (some .int)) (lv := [(0, .ref (a 50)), (1, .int v1)]) (by decide) rfl rfl (Nat.le_of_ble_eq_true rfl) rfl ?_
  intro x C hl hZ
  subst hl
  unfold fX0_winningIn at h
  refine r_iload_n C dX0_winningIn_0 rfl ?_
  refine callR_I C (run_S (As := [.int v1]) (rest := []) C hZ.2.2 (tX0_isPlace _ g N v1 _ h) gX0_winningIn_X0_isPlace rfl dsX0_isPlace rfl rfl ⟨(Nat.le_of_ble_eq_true rfl), (Nat.le_of_ble_eq_true rfl)⟩ rfl (Nat.le_of_ble_eq_true rfl) dX0_winningIn_1 ⟨Nat.zero_le _, Nat.zero_le _⟩) (List.nil_sublist _) (fun _ => rfl) (fun r1 _ h => ?_)
  refine r_if_eq (tgt := 24) C dX0_winningIn_4 (by decide) (fun c2 => ?_) (fun c2 => ?_)
  · have h := h.1 c2
    refine r_bipush (v := 8) C dX0_winningIn_24 (by decide) ?_
    exact r_iret C hZ (u := G) h rfl dX0_winningIn_26
  · have h := h.2 c2
    refine r_aload_n C dX0_winningIn_7 rfl ?_
    refine r_iload_n C dX0_winningIn_8 rfl ?_
    refine r_aload_n C dX0_winningIn_9 rfl ?_
    refine r_get (cn := RX0) (T := TX0) (N := 10) (ci := 0) C uwX0_winningIn_0 0 rfl rfl 7 (by decide) kwX0_winningIn_0 (v := .ref (a 7)) rfl dX0_winningIn_10 ?_
    refine r_iload_n C dX0_winningIn_13 rfl ?_
    obtain ⟨hi3, h⟩ := h
    refine r_iald C 6 rfl hi3 dX0_winningIn_14 ?_
    refine callW_L C (run_V (As := [.int v1, .int (G.2.1 7 v1.toNatClampNeg)]) (rest := []) (ci := 0) C hZ.2.2 (tX0_openBefore _ g a G N v1 (G.2.1 7 v1.toNatClampNeg) _ h) gX0_winningIn_X0_openBefore rfl dsX0_openBefore rfl rfl ⟨(Nat.le_of_ble_eq_true rfl), (Nat.le_of_ble_eq_true rfl)⟩ rfl (List.mem_of_getElem? (i := 0) rfl) rfl (Nat.le_of_ble_eq_true rfl) dX0_winningIn_15 ⟨Nat.zero_le _, Nat.zero_le _⟩) (fun r4 G5 h => ?_)
    show St x 0 0 (gW g a G5) _ _ 18
    refine callR_I C (run_S (As := [.long r4]) (rest := []) C hZ.2.2 (tX0_firstWithoutOut _ g N r4 _ h) gX0_winningIn_X0_firstWithoutOut rfl dsX0_firstWithoutOut rfl rfl ⟨(Nat.le_of_ble_eq_true rfl), (Nat.le_of_ble_eq_true rfl)⟩ rfl (Nat.le_of_ble_eq_true rfl) dX0_winningIn_18 ⟨Nat.zero_le _, Nat.zero_le _⟩) (List.nil_sublist _) (fun _ => rfl) (fun r6 _ h => ?_)
    refine r_goto (tgt := 26) C dX0_winningIn_21 (by decide) ?_
    exact r_iret C hZ (u := G5) h rfl dX0_winningIn_26
def rmX0_openTolds : Room := { frames := 2, cells := 0, slots := 0, locals := 59 }
def fX0_openTolds (N : Nat) (G : RS) (v1 : Int32) (Q : Int64 → RS → Prop) : Prop :=
  (fX0_isPlace N v1 (fun r1 => ((r1 = 0 → Q 0 G) ∧ (¬ r1 = 0 → (fX0_openBefore N G v1 1026 (fun r3 G4 => Q r3 G4))))))
set_option maxRecDepth 100000 in
set_option maxHeartbeats 4000000 in
theorem tX0_openTolds (l : Launch) (g : Gx) (a : Nat → Nat) (G : RS) (N : Nat) (v1 : Int32) (Q : Int64 → RS → Prop) (h : fX0_openTolds N G v1 Q) : MetG l g yX0_openTolds wsX0_openTolds rmX0_openTolds [.ref (a 50), .int v1] (gW g a G) (fun u : RS => gW g a u) (qL (fun (r : Int64) (u : RS) => Q r u)) 0 0 := by
  refine met_of (cc := cX0_openTolds) (own := RX0) (nL := 2) (ret := (some .long)) (lv := [(0, .ref (a 50)), (1, .int v1)]) (by decide) rfl rfl (Nat.le_of_ble_eq_true rfl) rfl ?_
  intro x C hl hZ
  subst hl
  unfold fX0_openTolds at h
  refine r_iload_n C dX0_openTolds_0 rfl ?_
  refine callR_I C (run_S (As := [.int v1]) (rest := []) C hZ.2.2 (tX0_isPlace _ g N v1 _ h) gX0_openTolds_X0_isPlace rfl dsX0_isPlace rfl rfl ⟨(Nat.le_of_ble_eq_true rfl), (Nat.le_of_ble_eq_true rfl)⟩ rfl (Nat.le_of_ble_eq_true rfl) dX0_openTolds_1 ⟨Nat.zero_le _, Nat.zero_le _⟩) (List.nil_sublist _) (fun _ => rfl) (fun r1 _ h => ?_)
  refine r_if_eq (tgt := 18) C dX0_openTolds_4 (by decide) (fun c2 => ?_) (fun c2 => ?_)
  · have h := h.1 c2
    refine r_lconst (v := 0) C dX0_openTolds_18 (by decide) ?_
    exact r_lret C hZ (u := G) h rfl dX0_openTolds_19
  · have h := h.2 c2
    refine r_aload_n C dX0_openTolds_7 rfl ?_
    refine r_iload_n C dX0_openTolds_8 rfl ?_
    refine r_sipush (v := 1026) C dX0_openTolds_9 (by decide) ?_
    refine callW_L C (run_V (As := [.int v1, .int 1026]) (rest := []) (ci := 0) C hZ.2.2 (tX0_openBefore _ g a G N v1 1026 _ h) gX0_openTolds_X0_openBefore rfl dsX0_openBefore rfl rfl ⟨(Nat.le_of_ble_eq_true rfl), (Nat.le_of_ble_eq_true rfl)⟩ rfl (List.mem_of_getElem? (i := 0) rfl) rfl (Nat.le_of_ble_eq_true rfl) dX0_openTolds_12 ⟨Nat.zero_le _, Nat.zero_le _⟩) (fun r3 G4 h => ?_)
    show St x 0 0 (gW g a G4) _ _ 15
    refine r_goto (tgt := 19) C dX0_openTolds_15 (by decide) ?_
    exact r_lret C hZ (u := G4) h rfl dX0_openTolds_19
def rmX0_placeAfter : Room := { frames := 1, cells := 0, slots := 0, locals := 22 }
theorem kwX0_placeAfter_0 : Cond.fieldLink RX0 35 "WantsBench$Game" "size" "I" ∈ wsX0_placeAfter := by decide +kernel
theorem uwX0_placeAfter_0 : ∀ w ∈ wsX00, w ∈ wsX0_placeAfter := by decide +kernel
theorem kwX0_placeAfter_2 : Cond.fieldLink RX0 13 "WantsBench$Game" "turning" "[J" ∈ wsX0_placeAfter := by decide +kernel
theorem kwX0_placeAfter_3 : Cond.fieldLink RX0 20 "WantsBench$Game" "runOn" "[I" ∈ wsX0_placeAfter := by decide +kernel
theorem kwX0_placeAfter_4 : Cond.fieldLink RX0 16 "WantsBench$Game" "turned" "[I" ∈ wsX0_placeAfter := by decide +kernel
def fX0_placeAfter_5b (N : Nat) (G : RS) (v1 : Int32) (v2 : Int32) (v3 : Int32) (v4 : Int32) (R : Int32 → Int32 → Prop) (K : Int32 → Prop) (Q : Int32 → Prop) : Prop :=
  (((G.1 0) ≤ v4 → K v3) ∧ (¬ (G.1 0) ≤ v4 → (∀ x2 : Int32, x2 = ((4 : Int32) * v4) + (((v1.toUInt32 >>> (((2 : Int32) * v4).toUInt32 &&& Int32.toUInt32 31)).toInt32) &&& (3 : Int32)) → (vp_in x2 20 ∧ (fX1_has N (G.2.2.2 2 x2.toNatClampNeg) v2 (fun r4 => ((r4 = 0 → (vp_in x2 20 ∧ (∀ x7 : Int32, x7 = v3 ||| (G.2.1 4 x2.toNatClampNeg) → (∀ x8 : Int32, x8 = v4 + 1 → R x7 x8)))) ∧ (¬ r4 = 0 → (vp_in x2 20 ∧ (∀ x10 : Int32, x10 = v3 ||| (G.2.1 3 x2.toNatClampNeg) → (∀ x11 : Int32, x11 = v4 + 1 → R x10 x11)))))))))))
set_option maxRecDepth 100000 in
set_option maxHeartbeats 4000000 in
theorem wfX0_placeAfter_5b {x : Nx} {g : Gx} {W0 : va_W} {a : Nat → Nat} {G : RS} {N : Nat} {v1 : Int32} {v2 : Int32} {v3 : Int32} {v4 : Int32} {R : Int32 → Int32 → Prop} {K : Int32 → Prop} {Q : Int32 → Prop} (C : Cx x g cX0_placeAfter RX0 wsX0_placeAfter rmX0_placeAfter yX0_placeAfter (some .int) 6) (hZ : Zq x g W0 (fun _ : Unit => gW g a G) (qI (fun (r : Int32) (_ : Unit) => Q r)) 0 0) (hR : ∀ (w3 : Int32) (w4 : Int32), R w3 w4 → St x 0 0 (gW g a G) [(0, .ref (a 50)), (1, .int v1), (2, .int v2), (3, .int w3), (4, .int w4)] [] 5) (hK : ∀ (w3 : Int32), K w3 → St x 0 0 (gW g a G) [(3, .int w3)] [] 69) (h : fX0_placeAfter_5b N G v1 v2 v3 v4 R K Q) : St x 0 0 (gW g a G) [(0, .ref (a 50)), (1, .int v1), (2, .int v2), (3, .int v3), (4, .int v4)] [] 5 := by
  unfold fX0_placeAfter_5b at h
  refine r_iload C dX0_placeAfter_5 rfl ?_
  refine r_aload_n C dX0_placeAfter_7 rfl ?_
  refine r_get (cn := RX0) (T := TX0) (N := 10) (ci := 0) C uwX0_placeAfter_0 0 rfl rfl 0 (by decide) kwX0_placeAfter_0 (v := .int (G.1 0)) rfl dX0_placeAfter_8 ?_
  refine r_icmp_ge (tgt := 69) C dX0_placeAfter_11 (by decide) (fun c1 => ?_) (fun c1 => ?_)
  · have h := h.1 c1
    refine r_sub [3] (lv' := [(3, .int v3)]) rfl ?_
    exact hK v3 h
  · have h := h.2 c1
    refine r_iconst (v := 4) C dX0_placeAfter_14 (by decide) ?_
    refine r_iload C dX0_placeAfter_15 rfl ?_
    refine r_imul C dX0_placeAfter_17 ?_
    refine r_iload_n C dX0_placeAfter_18 rfl ?_
    refine r_iconst (v := 2) C dX0_placeAfter_19 (by decide) ?_
    refine r_iload C dX0_placeAfter_20 rfl ?_
    refine r_imul C dX0_placeAfter_22 ?_
    refine r_iushr C dX0_placeAfter_23 ?_
    refine r_iconst (v := 3) C dX0_placeAfter_24 (by decide) ?_
    refine r_iand C dX0_placeAfter_25 ?_
    refine r_iadd C dX0_placeAfter_26 ?_
    refine r_topi (fun x2 ex2 => ?_)
    have h := h x2 ex2
    refine r_istore (lv' := [(0, .ref (a 50)), (1, .int v1), (2, .int v2), (3, .int v3), (4, .int v4), (5, .int x2)]) C dX0_placeAfter_27 [some 0, some 1, some 2, some 3, some 4, none] (by decide) rfl rfl ?_
    refine r_iload_n C dX0_placeAfter_29 rfl ?_
    refine r_aload_n C dX0_placeAfter_30 rfl ?_
    refine r_get (cn := RX0) (T := TX0) (N := 10) (ci := 0) C uwX0_placeAfter_0 0 rfl rfl 2 (by decide) kwX0_placeAfter_2 (v := .ref (a 2)) rfl dX0_placeAfter_31 ?_
    refine r_iload C dX0_placeAfter_34 rfl ?_
    obtain ⟨hi3, h⟩ := h
    refine r_lald C 2 rfl hi3 dX0_placeAfter_36 ?_
    refine r_iload_n C dX0_placeAfter_37 rfl ?_
    refine callR_I C (run_S (As := [.long (G.2.2.2 2 x2.toNatClampNeg), .int v2]) (rest := [.int v3]) C hZ.2.2 (tX1_has _ g N (G.2.2.2 2 x2.toNatClampNeg) v2 _ h) gX0_placeAfter_X1_has rfl dsX1_has rfl rfl ⟨(Nat.le_of_ble_eq_true rfl), (Nat.le_of_ble_eq_true rfl)⟩ rfl (Nat.le_of_ble_eq_true rfl) dX0_placeAfter_38 ⟨Nat.zero_le _, Nat.zero_le _⟩) (List.nil_sublist _) (fun _ => rfl) (fun r4 _ h => ?_)
    refine r_if_eq (tgt := 54) C dX0_placeAfter_41 (by decide) (fun c5 => ?_) (fun c5 => ?_)
    · have h := h.1 c5
      refine r_aload_n C dX0_placeAfter_54 rfl ?_
      refine r_get (cn := RX0) (T := TX0) (N := 10) (ci := 0) C uwX0_placeAfter_0 0 rfl rfl 4 (by decide) kwX0_placeAfter_3 (v := .ref (a 4)) rfl dX0_placeAfter_55 ?_
      refine r_iload C dX0_placeAfter_58 rfl ?_
      obtain ⟨hi6, h⟩ := h
      refine r_iald C 4 rfl hi6 dX0_placeAfter_60 ?_
      refine r_ior C dX0_placeAfter_61 ?_
      refine r_topi (fun x7 ex7 => ?_)
      have h := h x7 ex7
      refine r_istore_n (lv' := [(0, .ref (a 50)), (1, .int v1), (2, .int v2), (3, .int x7), (4, .int v4)]) C dX0_placeAfter_62 [some 0, some 1, some 2, none, some 4] (by decide) rfl rfl ?_
      obtain ⟨x8, ex8⟩ : ∃ z : Int32, z = v4 + 1 := ⟨_, rfl⟩
      have h := h x8 ex8
      refine r_iinc (v := x8) (lv' := [(0, .ref (a 50)), (1, .int v1), (2, .int v2), (3, .int x7), (4, .int x8)]) C dX0_placeAfter_63 rfl (by rw [ex8]; rfl) [some 0, some 1, some 2, some 3, none] (by decide) rfl rfl ?_
      refine r_goto (tgt := 5) C dX0_placeAfter_66 (by decide) ?_
      exact hR x7 x8 h
    · have h := h.2 c5
      refine r_aload_n C dX0_placeAfter_44 rfl ?_
      refine r_get (cn := RX0) (T := TX0) (N := 10) (ci := 0) C uwX0_placeAfter_0 0 rfl rfl 3 (by decide) kwX0_placeAfter_4 (v := .ref (a 3)) rfl dX0_placeAfter_45 ?_
      refine r_iload C dX0_placeAfter_48 rfl ?_
      obtain ⟨hi9, h⟩ := h
      refine r_iald C 3 rfl hi9 dX0_placeAfter_50 ?_
      refine r_goto (tgt := 61) C dX0_placeAfter_51 (by decide) ?_
      refine r_ior C dX0_placeAfter_61 ?_
      refine r_topi (fun x10 ex10 => ?_)
      have h := h x10 ex10
      refine r_istore_n (lv' := [(0, .ref (a 50)), (1, .int v1), (2, .int v2), (3, .int x10), (4, .int v4)]) C dX0_placeAfter_62 [some 0, some 1, some 2, none, some 4] (by decide) rfl rfl ?_
      obtain ⟨x11, ex11⟩ : ∃ z : Int32, z = v4 + 1 := ⟨_, rfl⟩
      have h := h x11 ex11
      refine r_iinc (v := x11) (lv' := [(0, .ref (a 50)), (1, .int v1), (2, .int v2), (3, .int x10), (4, .int x11)]) C dX0_placeAfter_63 rfl (by rw [ex11]; rfl) [some 0, some 1, some 2, some 3, none] (by decide) rfl rfl ?_
      refine r_goto (tgt := 5) C dX0_placeAfter_66 (by decide) ?_
      exact hR x10 x11 h
def fX0_placeAfter_5 (N : Nat) (G : RS) (v1 : Int32) (v2 : Int32) (K : Int32 → Prop) (Q : Int32 → Prop) : Nat → Int32 → Int32 → Prop
  | 0, _, _ => False
  | n + 1, v3, v4 => fX0_placeAfter_5b N G v1 v2 v3 v4 (fun v3 v4 => fX0_placeAfter_5 N G v1 v2 K Q n v3 v4) K Q
set_option maxRecDepth 100000 in
set_option maxHeartbeats 4000000 in
theorem wfX0_placeAfter_5 {x : Nx} {g : Gx} {W0 : va_W} {a : Nat → Nat} {G : RS} {N : Nat} {v1 : Int32} {v2 : Int32} {K : Int32 → Prop} {Q : Int32 → Prop} (C : Cx x g cX0_placeAfter RX0 wsX0_placeAfter rmX0_placeAfter yX0_placeAfter (some .int) 6) (hZ : Zq x g W0 (fun _ : Unit => gW g a G) (qI (fun (r : Int32) (_ : Unit) => Q r)) 0 0) (hK : ∀ (w3 : Int32), K w3 → St x 0 0 (gW g a G) [(3, .int w3)] [] 69) : ∀ (n : Nat) (v3 : Int32) (v4 : Int32), fX0_placeAfter_5 N G v1 v2 K Q n v3 v4 → St x 0 0 (gW g a G) [(0, .ref (a 50)), (1, .int v1), (2, .int v2), (3, .int v3), (4, .int v4)] [] 5 := by
  intro n
  induction n with
  | zero => intro v3 v4 h; exact False.elim h
  | succ n ih => intro v3 v4 h; exact wfX0_placeAfter_5b C hZ ih hK h
def fX0_placeAfter (N : Nat) (G : RS) (v1 : Int32) (v2 : Int32) (Q : Int32 → Prop) : Prop :=
  (fX0_placeAfter_5 N G v1 v2 (fun x12 => Q x12) Q N 0 0)
set_option maxRecDepth 100000 in
set_option maxHeartbeats 4000000 in
theorem tX0_placeAfter (l : Launch) (g : Gx) (a : Nat → Nat) (G : RS) (N : Nat) (v1 : Int32) (v2 : Int32) (Q : Int32 → Prop) (h : fX0_placeAfter N G v1 v2 Q) : MetG l g yX0_placeAfter wsX0_placeAfter rmX0_placeAfter [.ref (a 50), .int v1, .int v2] (gW g a G) (fun _ : Unit => gW g a G) (qI (fun (r : Int32) (_ : Unit) => Q r)) 0 0 := by
  refine met_of (cc := cX0_placeAfter) (own := RX0) (nL := 6) (ret := (some .int)) (lv := [(0, .ref (a 50)), (1, .int v1), (2, .int v2)]) (by decide) rfl rfl (Nat.le_of_ble_eq_true rfl) rfl ?_
  intro x C hl hZ
  subst hl
  unfold fX0_placeAfter at h
  refine r_iconst (v := 0) C dX0_placeAfter_0 (by decide) ?_
  refine r_istore_n (lv' := [(0, .ref (a 50)), (1, .int v1), (2, .int v2), (3, .int 0)]) C dX0_placeAfter_1 [some 0, some 1, some 2, none] (by decide) rfl rfl ?_
  refine r_iconst (v := 0) C dX0_placeAfter_2 (by decide) ?_
  refine r_istore (lv' := [(0, .ref (a 50)), (1, .int v1), (2, .int v2), (3, .int 0), (4, .int 0)]) C dX0_placeAfter_3 [some 0, some 1, some 2, some 3, none] (by decide) rfl rfl ?_
  refine wfX0_placeAfter_5 C hZ (fun x12 h => ?_) N _ _ h
  refine r_iload_n C dX0_placeAfter_69 rfl ?_
  exact r_iret C hZ (u := ()) h rfl dX0_placeAfter_70
def rmX0_lastBreaksAlone : Room := { frames := 1, cells := 0, slots := 0, locals := 25 }
theorem kwX0_lastBreaksAlone_0 : Cond.fieldLink RX0 35 "WantsBench$Game" "size" "I" ∈ wsX0_lastBreaksAlone := by decide +kernel
theorem uwX0_lastBreaksAlone_0 : ∀ w ∈ wsX00, w ∈ wsX0_lastBreaksAlone := by decide +kernel
theorem kwX0_lastBreaksAlone_2 : Cond.fieldLink RX0 9 "WantsBench$Game" "breaking" "[J" ∈ wsX0_lastBreaksAlone := by decide +kernel
def fX0_lastBreaksAlone (N : Nat) (G : RS) (v1 : Int32) (Q : Int32 → Prop) : Prop :=
  ((¬ (G.1 0) = 0 → (∀ x2 : Int32, x2 = (G.1 0) - (1 : Int32) → (fX0_stateAt N v1 x2 (fun r3 => (vp_in (((4 : Int32) * x2) + r3) 20 ∧ (fX0_unbroken N G v1 x2 (fun r5 => ((((G.2.2.2 1 (((4 : Int32) * x2) + r3).toNatClampNeg) &&& r5) = 0 → Q 0) ∧ (¬ ((G.2.2.2 1 (((4 : Int32) * x2) + r3).toNatClampNeg) &&& r5) = 0 → Q 1))))))))) ∧ ((G.1 0) = 0 → Q 0))
set_option maxRecDepth 100000 in
set_option maxHeartbeats 4000000 in
theorem tX0_lastBreaksAlone (l : Launch) (g : Gx) (a : Nat → Nat) (G : RS) (N : Nat) (v1 : Int32) (Q : Int32 → Prop) (h : fX0_lastBreaksAlone N G v1 Q) : MetG l g yX0_lastBreaksAlone wsX0_lastBreaksAlone rmX0_lastBreaksAlone [.ref (a 50), .int v1] (gW g a G) (fun _ : Unit => gW g a G) (qI (fun (r : Int32) (_ : Unit) => Q r)) 0 0 := by
  refine met_of (cc := cX0_lastBreaksAlone) (own := RX0) (nL := 3) (ret := (some .boolean)) (lv := [(0, .ref (a 50)), (1, .int v1)]) (by decide) rfl rfl (Nat.le_of_ble_eq_true rfl) rfl ?_
  intro x C hl hZ
  subst hl
  unfold fX0_lastBreaksAlone at h
  refine r_aload_n C dX0_lastBreaksAlone_0 rfl ?_
  refine r_get (cn := RX0) (T := TX0) (N := 10) (ci := 0) C uwX0_lastBreaksAlone_0 0 rfl rfl 0 (by decide) kwX0_lastBreaksAlone_0 (v := .int (G.1 0)) rfl dX0_lastBreaksAlone_1 ?_
  refine r_if_ne (tgt := 9) C dX0_lastBreaksAlone_4 (by decide) (fun c1 => ?_) (fun c1 => ?_)
  · have h := h.1 c1
    refine r_aload_n C dX0_lastBreaksAlone_9 rfl ?_
    refine r_get (cn := RX0) (T := TX0) (N := 10) (ci := 0) C uwX0_lastBreaksAlone_0 0 rfl rfl 0 (by decide) kwX0_lastBreaksAlone_0 (v := .int (G.1 0)) rfl dX0_lastBreaksAlone_10 ?_
    refine r_iconst (v := 1) C dX0_lastBreaksAlone_13 (by decide) ?_
    refine r_isub C dX0_lastBreaksAlone_14 ?_
    refine r_topi (fun x2 ex2 => ?_)
    have h := h x2 ex2
    refine r_istore_n (lv' := [(0, .ref (a 50)), (1, .int v1), (2, .int x2)]) C dX0_lastBreaksAlone_15 [some 0, some 1, none] (by decide) rfl rfl ?_
    refine r_aload_n C dX0_lastBreaksAlone_16 rfl ?_
    refine r_get (cn := RX0) (T := TX0) (N := 10) (ci := 0) C uwX0_lastBreaksAlone_0 0 rfl rfl 1 (by decide) kwX0_lastBreaksAlone_2 (v := .ref (a 1)) rfl dX0_lastBreaksAlone_17 ?_
    refine r_iconst (v := 4) C dX0_lastBreaksAlone_20 (by decide) ?_
    refine r_iload_n C dX0_lastBreaksAlone_21 rfl ?_
    refine r_imul C dX0_lastBreaksAlone_22 ?_
    refine r_iload_n C dX0_lastBreaksAlone_23 rfl ?_
    refine r_iload_n C dX0_lastBreaksAlone_24 rfl ?_
    refine callR_I C (run_S (As := [.int v1, .int x2]) (rest := [.int ((4 : Int32) * x2), .ref (a 1)]) C hZ.2.2 (tX0_stateAt _ g N v1 x2 _ h) gX0_lastBreaksAlone_X0_stateAt rfl dsX0_stateAt rfl rfl ⟨(Nat.le_of_ble_eq_true rfl), (Nat.le_of_ble_eq_true rfl)⟩ rfl (Nat.le_of_ble_eq_true rfl) dX0_lastBreaksAlone_25 ⟨Nat.zero_le _, Nat.zero_le _⟩) (List.nil_sublist _) (fun _ => rfl) (fun r3 _ h => ?_)
    refine r_iadd C dX0_lastBreaksAlone_28 ?_
    obtain ⟨hi4, h⟩ := h
    refine r_lald C 1 rfl hi4 dX0_lastBreaksAlone_29 ?_
    refine r_aload_n C dX0_lastBreaksAlone_30 rfl ?_
    refine r_iload_n C dX0_lastBreaksAlone_31 rfl ?_
    refine r_iload_n C dX0_lastBreaksAlone_32 rfl ?_
    refine callR_L C (run_V (As := [.int v1, .int x2]) (rest := [.long (G.2.2.2 1 (((4 : Int32) * x2) + r3).toNatClampNeg)]) (ci := 0) C hZ.2.2 (tX0_unbroken _ g a G N v1 x2 _ h) gX0_lastBreaksAlone_X0_unbroken rfl dsX0_unbroken rfl rfl ⟨(Nat.le_of_ble_eq_true rfl), (Nat.le_of_ble_eq_true rfl)⟩ rfl (List.mem_of_getElem? (i := 0) rfl) rfl (Nat.le_of_ble_eq_true rfl) dX0_lastBreaksAlone_33 ⟨Nat.zero_le _, Nat.zero_le _⟩) (List.Sublist.refl _) (fun _ => rfl) (fun r5 _ h => ?_)
    refine r_land C dX0_lastBreaksAlone_36 ?_
    refine r_lconst (v := 0) C dX0_lastBreaksAlone_37 (by decide) ?_
    refine r_lcmp_eq (tgt := 46) C dX0_lastBreaksAlone_38 dX0_lastBreaksAlone_39 (by decide) (fun c6 => ?_) (fun c6 => ?_)
    · have h := h.1 c6
      refine r_iconst (v := 0) C dX0_lastBreaksAlone_46 (by decide) ?_
      exact r_zret C hZ (u := ()) (by decide) h rfl dX0_lastBreaksAlone_47
    · have h := h.2 c6
      refine r_iconst (v := 1) C dX0_lastBreaksAlone_42 (by decide) ?_
      refine r_goto (tgt := 47) C dX0_lastBreaksAlone_43 (by decide) ?_
      exact r_zret C hZ (u := ()) (by decide) h rfl dX0_lastBreaksAlone_47
  · have h := h.2 c1
    refine r_iconst (v := 0) C dX0_lastBreaksAlone_7 (by decide) ?_
    exact r_zret C hZ (u := ()) (by decide) h rfl dX0_lastBreaksAlone_8
def rmX0_reachFrom : Room := { frames := 1, cells := 0, slots := 0, locals := 32 }
theorem kwX0_reachFrom_0 : Cond.fieldLink RX0 35 "WantsBench$Game" "size" "I" ∈ wsX0_reachFrom := by decide +kernel
theorem uwX0_reachFrom_0 : ∀ w ∈ wsX00, w ∈ wsX0_reachFrom := by decide +kernel
theorem kwX0_reachFrom_2 : Cond.fieldLink RX0 32 "WantsBench$Game" "wayEnds" "[I" ∈ wsX0_reachFrom := by decide +kernel
theorem kwX0_reachFrom_3 : Cond.fieldLink RX0 29 "WantsBench$Game" "wayTolds" "[J" ∈ wsX0_reachFrom := by decide +kernel
theorem kwX0_reachFrom_4 : Cond.fieldLink RX0 26 "WantsBench$Game" "lost" "[I" ∈ wsX0_reachFrom := by decide +kernel
theorem kwX0_reachFrom_5 : Cond.fieldLink RX0 39 "WantsBench$Game" "rowLength" "I" ∈ wsX0_reachFrom := by decide +kernel
theorem kwX0_reachFrom_6 : Cond.fieldLink RX0 23 "WantsBench$Game" "row" "[I" ∈ wsX0_reachFrom := by decide +kernel
def fX0_reachFrom_17b (N : Nat) (G : RS) (v2 : Int32) (v3 : Int32) (R : Int32 → RS → Prop) (K : RS → Prop) (Q : RS → Prop) : Prop :=
  ((v2 ≤ v3 → K G) ∧ (¬ v2 ≤ v3 → (vp_in v3 32 ∧ (∀ x6 : Int32, x6 = G.2.1 9 v3.toNatClampNeg → (vp_in v3 32 ∧ (((G.2.2.2 8 v3.toNatClampNeg) = 0 → (∀ x9 : Int32, x9 = v3 + 1 → R x9 G)) ∧ (¬ (G.2.2.2 8 v3.toNatClampNeg) = 0 → (vp_in x6 1024 ∧ ((¬ (G.2.1 7 x6.toNatClampNeg) = 0 → (∀ x12 : Int32, x12 = v3 + 1 → R x12 G)) ∧ ((G.2.1 7 x6.toNatClampNeg) = 0 → ((1024 ≤ (G.1 6) → (∀ x14 : Int32, x14 = v3 + 1 → R x14 G)) ∧ (¬ 1024 ≤ (G.1 6) → (vp_in x6 1024 ∧ (∀ G16 : RS, G16 = sA G 7 (upd (G.2.1 7) x6.toNatClampNeg 1) → (vp_in (G16.1 6) 1024 ∧ (∀ G18 : RS, G18 = sA G16 5 (upd (G16.2.1 5) (G16.1 6).toNatClampNeg x6) → (∀ G19 : RS, G19 = sI G18 6 ((G18.1 6) + (1 : Int32)) → (∀ x20 : Int32, x20 = v3 + 1 → R x20 G19))))))))))))))))))
set_option maxRecDepth 100000 in
set_option maxHeartbeats 4000000 in
theorem wfX0_reachFrom_17b {x : Nx} {g : Gx} {W0 : va_W} {a : Nat → Nat} {G : RS} {N : Nat} {v2 : Int32} {v3 : Int32} {R : Int32 → RS → Prop} {K : RS → Prop} {Q : RS → Prop} (C : Cx x g cX0_reachFrom RX0 wsX0_reachFrom rmX0_reachFrom yX0_reachFrom none 5) (hZ : Zq x g W0 (fun u : RS => gW g a u) (qV (fun u : RS => Q u)) 0 0) (hR : ∀ (w3 : Int32) (G_ : RS), R w3 G_ → St x 0 0 (gW g a G_) [(0, .ref (a 50)), (2, .int v2), (3, .int w3)] [] 17) (hK : ∀ (G_ : RS), K G_ → St x 0 0 (gW g a G_) [] [] 96) (h : fX0_reachFrom_17b N G v2 v3 R K Q) : St x 0 0 (gW g a G) [(0, .ref (a 50)), (2, .int v2), (3, .int v3)] [] 17 := by
  unfold fX0_reachFrom_17b at h
  refine r_iload_n C dX0_reachFrom_17 rfl ?_
  refine r_iload_n C dX0_reachFrom_18 rfl ?_
  refine r_icmp_ge (tgt := 96) C dX0_reachFrom_19 (by decide) (fun c4 => ?_) (fun c4 => ?_)
  · have h := h.1 c4
    refine r_sub [] (lv' := []) rfl ?_
    exact hK G h
  · have h := h.2 c4
    refine r_aload_n C dX0_reachFrom_22 rfl ?_
    refine r_get (cn := RX0) (T := TX0) (N := 10) (ci := 0) C uwX0_reachFrom_0 0 rfl rfl 9 (by decide) kwX0_reachFrom_2 (v := .ref (a 9)) rfl dX0_reachFrom_23 ?_
    refine r_iload_n C dX0_reachFrom_26 rfl ?_
    obtain ⟨hi5, h⟩ := h
    refine r_iald C 8 rfl hi5 dX0_reachFrom_27 ?_
    refine r_topi (fun x6 ex6 => ?_)
    have h := h x6 ex6
    refine r_istore (lv' := [(0, .ref (a 50)), (2, .int v2), (3, .int v3), (4, .int x6)]) C dX0_reachFrom_28 [some 0, some 1, some 2, none] (by decide) rfl rfl ?_
    refine r_aload_n C dX0_reachFrom_30 rfl ?_
    refine r_get (cn := RX0) (T := TX0) (N := 10) (ci := 0) C uwX0_reachFrom_0 0 rfl rfl 8 (by decide) kwX0_reachFrom_3 (v := .ref (a 8)) rfl dX0_reachFrom_31 ?_
    refine r_iload_n C dX0_reachFrom_34 rfl ?_
    obtain ⟨hi7, h⟩ := h
    refine r_lald C 7 rfl hi7 dX0_reachFrom_35 ?_
    refine r_lconst (v := 0) C dX0_reachFrom_36 (by decide) ?_
    refine r_lcmp_eq (tgt := 90) C dX0_reachFrom_37 dX0_reachFrom_38 (by decide) (fun c8 => ?_) (fun c8 => ?_)
    · have h := h.1 c8
      obtain ⟨x9, ex9⟩ : ∃ z : Int32, z = v3 + 1 := ⟨_, rfl⟩
      have h := h x9 ex9
      refine r_iinc (v := x9) (lv' := [(0, .ref (a 50)), (2, .int v2), (3, .int x9)]) C dX0_reachFrom_90 rfl (by rw [ex9]; rfl) [some 0, some 1, none] (by decide) rfl rfl ?_
      refine r_goto (tgt := 17) C dX0_reachFrom_93 (by decide) ?_
      exact hR x9 G h
    · have h := h.2 c8
      refine r_aload_n C dX0_reachFrom_41 rfl ?_
      refine r_get (cn := RX0) (T := TX0) (N := 10) (ci := 0) C uwX0_reachFrom_0 0 rfl rfl 7 (by decide) kwX0_reachFrom_4 (v := .ref (a 7)) rfl dX0_reachFrom_42 ?_
      refine r_iload C dX0_reachFrom_45 rfl ?_
      obtain ⟨hi10, h⟩ := h
      refine r_iald C 6 rfl hi10 dX0_reachFrom_47 ?_
      refine r_if_ne (tgt := 90) C dX0_reachFrom_48 (by decide) (fun c11 => ?_) (fun c11 => ?_)
      · have h := h.1 c11
        obtain ⟨x12, ex12⟩ : ∃ z : Int32, z = v3 + 1 := ⟨_, rfl⟩
        have h := h x12 ex12
        refine r_iinc (v := x12) (lv' := [(0, .ref (a 50)), (2, .int v2), (3, .int x12)]) C dX0_reachFrom_90 rfl (by rw [ex12]; rfl) [some 0, some 1, none] (by decide) rfl rfl ?_
        refine r_goto (tgt := 17) C dX0_reachFrom_93 (by decide) ?_
        exact hR x12 G h
      · have h := h.2 c11
        refine r_aload_n C dX0_reachFrom_51 rfl ?_
        refine r_get (cn := RX0) (T := TX0) (N := 10) (ci := 0) C uwX0_reachFrom_0 0 rfl rfl 6 (by decide) kwX0_reachFrom_5 (v := .int (G.1 6)) rfl dX0_reachFrom_52 ?_
        refine r_sipush (v := 1024) C dX0_reachFrom_55 (by decide) ?_
        refine r_icmp_ge (tgt := 90) C dX0_reachFrom_58 (by decide) (fun c13 => ?_) (fun c13 => ?_)
        · have h := h.1 c13
          obtain ⟨x14, ex14⟩ : ∃ z : Int32, z = v3 + 1 := ⟨_, rfl⟩
          have h := h x14 ex14
          refine r_iinc (v := x14) (lv' := [(0, .ref (a 50)), (2, .int v2), (3, .int x14)]) C dX0_reachFrom_90 rfl (by rw [ex14]; rfl) [some 0, some 1, none] (by decide) rfl rfl ?_
          refine r_goto (tgt := 17) C dX0_reachFrom_93 (by decide) ?_
          exact hR x14 G h
        · have h := h.2 c13
          refine r_aload_n C dX0_reachFrom_61 rfl ?_
          refine r_get (cn := RX0) (T := TX0) (N := 10) (ci := 0) C uwX0_reachFrom_0 0 rfl rfl 7 (by decide) kwX0_reachFrom_4 (v := .ref (a 7)) rfl dX0_reachFrom_62 ?_
          refine r_iload C dX0_reachFrom_65 rfl ?_
          refine r_iconst (v := 1) C dX0_reachFrom_67 (by decide) ?_
          obtain ⟨hi15, h⟩ := h
          obtain ⟨G16, hG16⟩ : ∃ z : RS, z = sA G 7 (upd (G.2.1 7) x6.toNatClampNeg 1) := ⟨_, rfl⟩
          have h := h G16 hG16
          refine r_iast (ws' := gW g a G16) C 6 rfl hi15 dX0_reachFrom_68 (by rw [hG16]; rfl) ?_
          refine r_aload_n C dX0_reachFrom_69 rfl ?_
          refine r_get (cn := RX0) (T := TX0) (N := 10) (ci := 0) C uwX0_reachFrom_0 0 rfl rfl 5 (by decide) kwX0_reachFrom_6 (v := .ref (a 5)) rfl dX0_reachFrom_70 ?_
          refine r_aload_n C dX0_reachFrom_73 rfl ?_
          refine r_get (cn := RX0) (T := TX0) (N := 10) (ci := 0) C uwX0_reachFrom_0 0 rfl rfl 6 (by decide) kwX0_reachFrom_5 (v := .int (G16.1 6)) rfl dX0_reachFrom_74 ?_
          refine r_iload C dX0_reachFrom_77 rfl ?_
          obtain ⟨hi17, h⟩ := h
          obtain ⟨G18, hG18⟩ : ∃ z : RS, z = sA G16 5 (upd (G16.2.1 5) (G16.1 6).toNatClampNeg x6) := ⟨_, rfl⟩
          have h := h G18 hG18
          refine r_iast (ws' := gW g a G18) C 5 rfl hi17 dX0_reachFrom_79 (by rw [hG18]; rfl) ?_
          refine r_aload_n C dX0_reachFrom_80 rfl ?_
          refine r_dup C dX0_reachFrom_81 rfl ?_
          refine r_get (cn := RX0) (T := TX0) (N := 10) (ci := 0) C uwX0_reachFrom_0 0 rfl rfl 6 (by decide) kwX0_reachFrom_5 (v := .int (G18.1 6)) rfl dX0_reachFrom_82 ?_
          refine r_iconst (v := 1) C dX0_reachFrom_85 (by decide) ?_
          refine r_iadd C dX0_reachFrom_86 ?_
          obtain ⟨G19, hG19⟩ : ∃ z : RS, z = sI G18 6 ((G18.1 6) + (1 : Int32)) := ⟨_, rfl⟩
          have h := h G19 hG19
          refine r_put (cn := RX0) (T := TX0) (N := 10) (ci := 0) (ws' := gW g a G19) C uwX0_reachFrom_0 tyX0 tyX0_ok nmX0 0 rfl rfl 6 (by decide) kwX0_reachFrom_5 rfl rfl rfl (Nat.le_of_ble_eq_true rfl) dX0_reachFrom_87 (by rw [hG19]; rfl) ?_
          obtain ⟨x20, ex20⟩ : ∃ z : Int32, z = v3 + 1 := ⟨_, rfl⟩
          have h := h x20 ex20
          refine r_iinc (v := x20) (lv' := [(0, .ref (a 50)), (2, .int v2), (3, .int x20)]) C dX0_reachFrom_90 rfl (by rw [ex20]; rfl) [some 0, some 1, none] (by decide) rfl rfl ?_
          refine r_goto (tgt := 17) C dX0_reachFrom_93 (by decide) ?_
          exact hR x20 G19 h
def fX0_reachFrom_17 (N : Nat) (v2 : Int32) (K : RS → Prop) (Q : RS → Prop) : Nat → Int32 → RS → Prop
  | 0, _, _ => False
  | n + 1, v3, G => fX0_reachFrom_17b N G v2 v3 (fun v3 G => fX0_reachFrom_17 N v2 K Q n v3 G) K Q
set_option maxRecDepth 100000 in
set_option maxHeartbeats 4000000 in
theorem wfX0_reachFrom_17 {x : Nx} {g : Gx} {W0 : va_W} {a : Nat → Nat}  {N : Nat} {v2 : Int32} {K : RS → Prop} {Q : RS → Prop} (C : Cx x g cX0_reachFrom RX0 wsX0_reachFrom rmX0_reachFrom yX0_reachFrom none 5) (hZ : Zq x g W0 (fun u : RS => gW g a u) (qV (fun u : RS => Q u)) 0 0) (hK : ∀ (G_ : RS), K G_ → St x 0 0 (gW g a G_) [] [] 96) : ∀ (n : Nat) (v3 : Int32) (G : RS), fX0_reachFrom_17 N v2 K Q n v3 G → St x 0 0 (gW g a G) [(0, .ref (a 50)), (2, .int v2), (3, .int v3)] [] 17 := by
  intro n
  induction n with
  | zero => intro v3 G h; exact False.elim h
  | succ n ih => intro v3 G h; exact wfX0_reachFrom_17b C hZ ih hK h
def fX0_reachFrom (N : Nat) (G : RS) (v1 : Int32) (Q : RS → Prop) : Prop :=
  (fX0_unbroken N G v1 (G.1 0) (fun r1 => (fX0_split N G v1 r1 (fun r2 G3 => (fX0_reachFrom_17 N r2 (fun G21 => Q G21) Q N 0 G3)))))
set_option maxRecDepth 100000 in
set_option maxHeartbeats 4000000 in
theorem tX0_reachFrom (l : Launch) (g : Gx) (a : Nat → Nat) (G : RS) (N : Nat) (v1 : Int32) (Q : RS → Prop) (h : fX0_reachFrom N G v1 Q) : MetG l g yX0_reachFrom wsX0_reachFrom rmX0_reachFrom [.ref (a 50), .int v1] (gW g a G) (fun u : RS => gW g a u) (qV (fun u : RS => Q u)) 0 0 := by
  refine met_of (cc := cX0_reachFrom) (own := RX0) (nL := 5) (ret := none) (lv := [(0, .ref (a 50)), (1, .int v1)]) (by decide) rfl rfl (Nat.le_of_ble_eq_true rfl) rfl ?_
  intro x C hl hZ
  subst hl
  unfold fX0_reachFrom at h
  refine r_aload_n C dX0_reachFrom_0 rfl ?_
  refine r_iload_n C dX0_reachFrom_1 rfl ?_
  refine r_aload_n C dX0_reachFrom_2 rfl ?_
  refine r_iload_n C dX0_reachFrom_3 rfl ?_
  refine r_aload_n C dX0_reachFrom_4 rfl ?_
  refine r_get (cn := RX0) (T := TX0) (N := 10) (ci := 0) C uwX0_reachFrom_0 0 rfl rfl 0 (by decide) kwX0_reachFrom_0 (v := .int (G.1 0)) rfl dX0_reachFrom_5 ?_
  refine callR_L C (run_V (As := [.int v1, .int (G.1 0)]) (rest := [.int v1, .ref (a 50)]) (ci := 0) C hZ.2.2 (tX0_unbroken _ g a G N v1 (G.1 0) _ h) gX0_reachFrom_X0_unbroken rfl dsX0_unbroken rfl rfl ⟨(Nat.le_of_ble_eq_true rfl), (Nat.le_of_ble_eq_true rfl)⟩ rfl (List.mem_of_getElem? (i := 0) rfl) rfl (Nat.le_of_ble_eq_true rfl) dX0_reachFrom_8 ⟨Nat.zero_le _, Nat.zero_le _⟩) (List.Sublist.refl _) (fun _ => rfl) (fun r1 _ h => ?_)
  refine callW_I C (run_V (As := [.int v1, .long r1]) (rest := []) (ci := 0) C hZ.2.2 (tX0_split _ g a G N v1 r1 _ h) gX0_reachFrom_X0_split rfl dsX0_split rfl rfl ⟨(Nat.le_of_ble_eq_true rfl), (Nat.le_of_ble_eq_true rfl)⟩ rfl (List.mem_of_getElem? (i := 0) rfl) rfl (Nat.le_of_ble_eq_true rfl) dX0_reachFrom_11 ⟨Nat.zero_le _, Nat.zero_le _⟩) (fun r2 G3 h => ?_)
  show St x 0 0 (gW g a G3) _ _ 14
  refine r_istore_n (lv' := [(0, .ref (a 50)), (2, .int r2)]) C dX0_reachFrom_14 [some 0, none] (by decide) rfl rfl ?_
  refine r_iconst (v := 0) C dX0_reachFrom_15 (by decide) ?_
  refine r_istore_n (lv' := [(0, .ref (a 50)), (2, .int r2), (3, .int 0)]) C dX0_reachFrom_16 [some 0, some 1, none] (by decide) rfl rfl ?_
  refine wfX0_reachFrom_17 C hZ (fun G21 h => ?_) N _ _ h
  exact r_vret C hZ (u := G21) h rfl dX0_reachFrom_96
def rmX0_lastMayBreakAlone : Room := { frames := 2, cells := 0, slots := 0, locals := 56 }
theorem kwX0_lastMayBreakAlone_0 : Cond.fieldLink RX0 39 "WantsBench$Game" "rowLength" "I" ∈ wsX0_lastMayBreakAlone := by decide +kernel
theorem uwX0_lastMayBreakAlone_0 : ∀ w ∈ wsX00, w ∈ wsX0_lastMayBreakAlone := by decide +kernel
theorem kwX0_lastMayBreakAlone_2 : Cond.fieldLink RX0 26 "WantsBench$Game" "lost" "[I" ∈ wsX0_lastMayBreakAlone := by decide +kernel
theorem kwX0_lastMayBreakAlone_3 : Cond.fieldLink RX0 23 "WantsBench$Game" "row" "[I" ∈ wsX0_lastMayBreakAlone := by decide +kernel
def fX0_lastMayBreakAlone_2b (N : Nat) (G : RS) (v1 : Int32) (R : Int32 → RS → Prop) (K : RS → Prop) (Q : Int32 → RS → Prop) : Prop :=
  (((G.1 6) ≤ v1 → K G) ∧ (¬ (G.1 6) ≤ v1 → (vp_in v1 1024 ∧ (vp_in (G.2.1 5 v1.toNatClampNeg) 1024 ∧ (∀ G4 : RS, G4 = sA G 7 (upd (G.2.1 7) (G.2.1 5 v1.toNatClampNeg).toNatClampNeg 0) → (∀ x5 : Int32, x5 = v1 + 1 → R x5 G4))))))
set_option maxRecDepth 100000 in
set_option maxHeartbeats 4000000 in
theorem wfX0_lastMayBreakAlone_2b {x : Nx} {g : Gx} {W0 : va_W} {a : Nat → Nat} {G : RS} {N : Nat} {v1 : Int32} {R : Int32 → RS → Prop} {K : RS → Prop} {Q : Int32 → RS → Prop} (C : Cx x g cX0_lastMayBreakAlone RX0 wsX0_lastMayBreakAlone rmX0_lastMayBreakAlone yX0_lastMayBreakAlone (some .boolean) 2) (hZ : Zq x g W0 (fun u : RS => gW g a u) (qI (fun (r : Int32) (u : RS) => Q r u)) 0 0) (hR : ∀ (w1 : Int32) (G_ : RS), R w1 G_ → St x 0 0 (gW g a G_) [(0, .ref (a 50)), (1, .int w1)] [] 2) (hK : ∀ (G_ : RS), K G_ → St x 0 0 (gW g a G_) [(0, .ref (a 50))] [] 28) (h : fX0_lastMayBreakAlone_2b N G v1 R K Q) : St x 0 0 (gW g a G) [(0, .ref (a 50)), (1, .int v1)] [] 2 := by
  unfold fX0_lastMayBreakAlone_2b at h
  refine r_iload_n C dX0_lastMayBreakAlone_2 rfl ?_
  refine r_aload_n C dX0_lastMayBreakAlone_3 rfl ?_
  refine r_get (cn := RX0) (T := TX0) (N := 10) (ci := 0) C uwX0_lastMayBreakAlone_0 0 rfl rfl 6 (by decide) kwX0_lastMayBreakAlone_0 (v := .int (G.1 6)) rfl dX0_lastMayBreakAlone_4 ?_
  refine r_icmp_ge (tgt := 28) C dX0_lastMayBreakAlone_7 (by decide) (fun c1 => ?_) (fun c1 => ?_)
  · have h := h.1 c1
    refine r_sub [0] (lv' := [(0, .ref (a 50))]) rfl ?_
    exact hK G h
  · have h := h.2 c1
    refine r_aload_n C dX0_lastMayBreakAlone_10 rfl ?_
    refine r_get (cn := RX0) (T := TX0) (N := 10) (ci := 0) C uwX0_lastMayBreakAlone_0 0 rfl rfl 7 (by decide) kwX0_lastMayBreakAlone_2 (v := .ref (a 7)) rfl dX0_lastMayBreakAlone_11 ?_
    refine r_aload_n C dX0_lastMayBreakAlone_14 rfl ?_
    refine r_get (cn := RX0) (T := TX0) (N := 10) (ci := 0) C uwX0_lastMayBreakAlone_0 0 rfl rfl 5 (by decide) kwX0_lastMayBreakAlone_3 (v := .ref (a 5)) rfl dX0_lastMayBreakAlone_15 ?_
    refine r_iload_n C dX0_lastMayBreakAlone_18 rfl ?_
    obtain ⟨hi2, h⟩ := h
    refine r_iald C 5 rfl hi2 dX0_lastMayBreakAlone_19 ?_
    refine r_iconst (v := 0) C dX0_lastMayBreakAlone_20 (by decide) ?_
    obtain ⟨hi3, h⟩ := h
    obtain ⟨G4, hG4⟩ : ∃ z : RS, z = sA G 7 (upd (G.2.1 7) (G.2.1 5 v1.toNatClampNeg).toNatClampNeg 0) := ⟨_, rfl⟩
    have h := h G4 hG4
    refine r_iast (ws' := gW g a G4) C 6 rfl hi3 dX0_lastMayBreakAlone_21 (by rw [hG4]; rfl) ?_
    obtain ⟨x5, ex5⟩ : ∃ z : Int32, z = v1 + 1 := ⟨_, rfl⟩
    have h := h x5 ex5
    refine r_iinc (v := x5) (lv' := [(0, .ref (a 50)), (1, .int x5)]) C dX0_lastMayBreakAlone_22 rfl (by rw [ex5]; rfl) [some 0, none] (by decide) rfl rfl ?_
    refine r_goto (tgt := 2) C dX0_lastMayBreakAlone_25 (by decide) ?_
    exact hR x5 G4 h
def fX0_lastMayBreakAlone_2 (N : Nat) (K : RS → Prop) (Q : Int32 → RS → Prop) : Nat → Int32 → RS → Prop
  | 0, _, _ => False
  | n + 1, v1, G => fX0_lastMayBreakAlone_2b N G v1 (fun v1 G => fX0_lastMayBreakAlone_2 N K Q n v1 G) K Q
set_option maxRecDepth 100000 in
set_option maxHeartbeats 4000000 in
theorem wfX0_lastMayBreakAlone_2 {x : Nx} {g : Gx} {W0 : va_W} {a : Nat → Nat}  {N : Nat} {K : RS → Prop} {Q : Int32 → RS → Prop} (C : Cx x g cX0_lastMayBreakAlone RX0 wsX0_lastMayBreakAlone rmX0_lastMayBreakAlone yX0_lastMayBreakAlone (some .boolean) 2) (hZ : Zq x g W0 (fun u : RS => gW g a u) (qI (fun (r : Int32) (u : RS) => Q r u)) 0 0) (hK : ∀ (G_ : RS), K G_ → St x 0 0 (gW g a G_) [(0, .ref (a 50))] [] 28) : ∀ (n : Nat) (v1 : Int32) (G : RS), fX0_lastMayBreakAlone_2 N K Q n v1 G → St x 0 0 (gW g a G) [(0, .ref (a 50)), (1, .int v1)] [] 2 := by
  intro n
  induction n with
  | zero => intro v1 G h; exact False.elim h
  | succ n ih => intro v1 G h; exact wfX0_lastMayBreakAlone_2b C hZ ih hK h
def fX0_lastMayBreakAlone_49b (N : Nat) (G : RS) (v1 : Int32) (R : Int32 → RS → Prop) (K : RS → Prop) (Q : Int32 → RS → Prop) : Prop :=
  (((G.1 6) ≤ v1 → K G) ∧ (¬ (G.1 6) ≤ v1 → ((1024 ≤ v1 → K G) ∧ (¬ 1024 ≤ v1 → (vp_in v1 1024 ∧ (fX0_lastBreaksAlone N G (G.2.1 5 v1.toNatClampNeg) (fun r15 => ((r15 = 0 → (vp_in v1 1024 ∧ (fX0_reachFrom N G (G.2.1 5 v1.toNatClampNeg) (fun  G18 => (∀ x19 : Int32, x19 = v1 + 1 → R x19 G18))))) ∧ (¬ r15 = 0 → Q 1 G)))))))))
set_option maxRecDepth 100000 in
set_option maxHeartbeats 4000000 in
theorem wfX0_lastMayBreakAlone_49b {x : Nx} {g : Gx} {W0 : va_W} {a : Nat → Nat} {G : RS} {N : Nat} {v1 : Int32} {R : Int32 → RS → Prop} {K : RS → Prop} {Q : Int32 → RS → Prop} (C : Cx x g cX0_lastMayBreakAlone RX0 wsX0_lastMayBreakAlone rmX0_lastMayBreakAlone yX0_lastMayBreakAlone (some .boolean) 2) (hZ : Zq x g W0 (fun u : RS => gW g a u) (qI (fun (r : Int32) (u : RS) => Q r u)) 0 0) (hR : ∀ (w1 : Int32) (G_ : RS), R w1 G_ → St x 0 0 (gW g a G_) [(0, .ref (a 50)), (1, .int w1)] [] 49) (hK : ∀ (G_ : RS), K G_ → St x 0 0 (gW g a G_) [] [] 95) (h : fX0_lastMayBreakAlone_49b N G v1 R K Q) : St x 0 0 (gW g a G) [(0, .ref (a 50)), (1, .int v1)] [] 49 := by
  unfold fX0_lastMayBreakAlone_49b at h
  refine r_iload_n C dX0_lastMayBreakAlone_49 rfl ?_
  refine r_aload_n C dX0_lastMayBreakAlone_50 rfl ?_
  refine r_get (cn := RX0) (T := TX0) (N := 10) (ci := 0) C uwX0_lastMayBreakAlone_0 0 rfl rfl 6 (by decide) kwX0_lastMayBreakAlone_0 (v := .int (G.1 6)) rfl dX0_lastMayBreakAlone_51 ?_
  refine r_icmp_ge (tgt := 95) C dX0_lastMayBreakAlone_54 (by decide) (fun c12 => ?_) (fun c12 => ?_)
  · have h := h.1 c12
    refine r_sub [] (lv' := []) rfl ?_
    exact hK G h
  · have h := h.2 c12
    refine r_iload_n C dX0_lastMayBreakAlone_57 rfl ?_
    refine r_sipush (v := 1024) C dX0_lastMayBreakAlone_58 (by decide) ?_
    refine r_icmp_ge (tgt := 95) C dX0_lastMayBreakAlone_61 (by decide) (fun c13 => ?_) (fun c13 => ?_)
    · have h := h.1 c13
      refine r_sub [] (lv' := []) rfl ?_
      exact hK G h
    · have h := h.2 c13
      refine r_aload_n C dX0_lastMayBreakAlone_64 rfl ?_
      refine r_aload_n C dX0_lastMayBreakAlone_65 rfl ?_
      refine r_get (cn := RX0) (T := TX0) (N := 10) (ci := 0) C uwX0_lastMayBreakAlone_0 0 rfl rfl 5 (by decide) kwX0_lastMayBreakAlone_3 (v := .ref (a 5)) rfl dX0_lastMayBreakAlone_66 ?_
      refine r_iload_n C dX0_lastMayBreakAlone_69 rfl ?_
      obtain ⟨hi14, h⟩ := h
      refine r_iald C 5 rfl hi14 dX0_lastMayBreakAlone_70 ?_
      refine callR_I C (run_V (As := [.int (G.2.1 5 v1.toNatClampNeg)]) (rest := []) (ci := 0) C hZ.2.2 (tX0_lastBreaksAlone _ g a G N (G.2.1 5 v1.toNatClampNeg) _ h) gX0_lastMayBreakAlone_X0_lastBreaksAlone rfl dsX0_lastBreaksAlone rfl rfl ⟨(Nat.le_of_ble_eq_true rfl), (Nat.le_of_ble_eq_true rfl)⟩ rfl (List.mem_of_getElem? (i := 0) rfl) rfl (Nat.le_of_ble_eq_true rfl) dX0_lastMayBreakAlone_71 ⟨Nat.zero_le _, Nat.zero_le _⟩) (List.Sublist.refl _) (fun _ => rfl) (fun r15 _ h => ?_)
      refine r_if_eq (tgt := 79) C dX0_lastMayBreakAlone_74 (by decide) (fun c16 => ?_) (fun c16 => ?_)
      · have h := h.1 c16
        refine r_aload_n C dX0_lastMayBreakAlone_79 rfl ?_
        refine r_aload_n C dX0_lastMayBreakAlone_80 rfl ?_
        refine r_get (cn := RX0) (T := TX0) (N := 10) (ci := 0) C uwX0_lastMayBreakAlone_0 0 rfl rfl 5 (by decide) kwX0_lastMayBreakAlone_3 (v := .ref (a 5)) rfl dX0_lastMayBreakAlone_81 ?_
        refine r_iload_n C dX0_lastMayBreakAlone_84 rfl ?_
        obtain ⟨hi17, h⟩ := h
        refine r_iald C 5 rfl hi17 dX0_lastMayBreakAlone_85 ?_
        refine callW_V C (run_V (As := [.int (G.2.1 5 v1.toNatClampNeg)]) (rest := []) (ci := 0) C hZ.2.2 (tX0_reachFrom _ g a G N (G.2.1 5 v1.toNatClampNeg) _ h) gX0_lastMayBreakAlone_X0_reachFrom rfl dsX0_reachFrom rfl rfl ⟨(Nat.le_of_ble_eq_true rfl), (Nat.le_of_ble_eq_true rfl)⟩ rfl (List.mem_of_getElem? (i := 0) rfl) rfl (Nat.le_of_ble_eq_true rfl) dX0_lastMayBreakAlone_86 ⟨Nat.zero_le _, Nat.zero_le _⟩) (fun G18 h => ?_)
        show St x 0 0 (gW g a G18) _ _ 89
        obtain ⟨x19, ex19⟩ : ∃ z : Int32, z = v1 + 1 := ⟨_, rfl⟩
        have h := h x19 ex19
        refine r_iinc (v := x19) (lv' := [(0, .ref (a 50)), (1, .int x19)]) C dX0_lastMayBreakAlone_89 rfl (by rw [ex19]; rfl) [some 0, none] (by decide) rfl rfl ?_
        refine r_goto (tgt := 49) C dX0_lastMayBreakAlone_92 (by decide) ?_
        exact hR x19 G18 h
      · have h := h.2 c16
        refine r_iconst (v := 1) C dX0_lastMayBreakAlone_77 (by decide) ?_
        exact r_zret C hZ (u := G) (by decide) h rfl dX0_lastMayBreakAlone_78
def fX0_lastMayBreakAlone_49 (N : Nat) (K : RS → Prop) (Q : Int32 → RS → Prop) : Nat → Int32 → RS → Prop
  | 0, _, _ => False
  | n + 1, v1, G => fX0_lastMayBreakAlone_49b N G v1 (fun v1 G => fX0_lastMayBreakAlone_49 N K Q n v1 G) K Q
set_option maxRecDepth 100000 in
set_option maxHeartbeats 4000000 in
theorem wfX0_lastMayBreakAlone_49 {x : Nx} {g : Gx} {W0 : va_W} {a : Nat → Nat}  {N : Nat} {K : RS → Prop} {Q : Int32 → RS → Prop} (C : Cx x g cX0_lastMayBreakAlone RX0 wsX0_lastMayBreakAlone rmX0_lastMayBreakAlone yX0_lastMayBreakAlone (some .boolean) 2) (hZ : Zq x g W0 (fun u : RS => gW g a u) (qI (fun (r : Int32) (u : RS) => Q r u)) 0 0) (hK : ∀ (G_ : RS), K G_ → St x 0 0 (gW g a G_) [] [] 95) : ∀ (n : Nat) (v1 : Int32) (G : RS), fX0_lastMayBreakAlone_49 N K Q n v1 G → St x 0 0 (gW g a G) [(0, .ref (a 50)), (1, .int v1)] [] 49 := by
  intro n
  induction n with
  | zero => intro v1 G h; exact False.elim h
  | succ n ih => intro v1 G h; exact wfX0_lastMayBreakAlone_49b C hZ ih hK h
def fX0_lastMayBreakAlone (N : Nat) (G : RS) (Q : Int32 → RS → Prop) : Prop :=
  (fX0_lastMayBreakAlone_2 N (fun G6 => (vp_in 0 1024 ∧ (∀ G8 : RS, G8 = sA G6 5 (upd (G6.2.1 5) (0 : Int32).toNatClampNeg 0) → (∀ G9 : RS, G9 = sI G8 6 1 → (vp_in 0 1024 ∧ (∀ G11 : RS, G11 = sA G9 7 (upd (G9.2.1 7) (0 : Int32).toNatClampNeg 1) → (fX0_lastMayBreakAlone_49 N (fun G20 => Q 0 G20) Q N 0 G11))))))) Q N 0 G)
set_option maxRecDepth 100000 in
set_option maxHeartbeats 4000000 in
theorem tX0_lastMayBreakAlone (l : Launch) (g : Gx) (a : Nat → Nat) (G : RS) (N : Nat) (Q : Int32 → RS → Prop) (h : fX0_lastMayBreakAlone N G Q) : MetG l g yX0_lastMayBreakAlone wsX0_lastMayBreakAlone rmX0_lastMayBreakAlone [.ref (a 50)] (gW g a G) (fun u : RS => gW g a u) (qI (fun (r : Int32) (u : RS) => Q r u)) 0 0 := by
  refine met_of (cc := cX0_lastMayBreakAlone) (own := RX0) (nL := 2) (ret := (some .boolean)) (lv := [(0, .ref (a 50))]) (by decide) rfl rfl (Nat.le_of_ble_eq_true rfl) rfl ?_
  intro x C hl hZ
  subst hl
  unfold fX0_lastMayBreakAlone at h
  refine r_iconst (v := 0) C dX0_lastMayBreakAlone_0 (by decide) ?_
  refine r_istore_n (lv' := [(0, .ref (a 50)), (1, .int 0)]) C dX0_lastMayBreakAlone_1 [some 0, none] (by decide) rfl rfl ?_
  refine wfX0_lastMayBreakAlone_2 C hZ (fun G6 h => ?_) N _ _ h
  refine r_aload_n C dX0_lastMayBreakAlone_28 rfl ?_
  refine r_get (cn := RX0) (T := TX0) (N := 10) (ci := 0) C uwX0_lastMayBreakAlone_0 0 rfl rfl 5 (by decide) kwX0_lastMayBreakAlone_3 (v := .ref (a 5)) rfl dX0_lastMayBreakAlone_29 ?_
  refine r_iconst (v := 0) C dX0_lastMayBreakAlone_32 (by decide) ?_
  refine r_iconst (v := 0) C dX0_lastMayBreakAlone_33 (by decide) ?_
  obtain ⟨hi7, h⟩ := h
  obtain ⟨G8, hG8⟩ : ∃ z : RS, z = sA G6 5 (upd (G6.2.1 5) (0 : Int32).toNatClampNeg 0) := ⟨_, rfl⟩
  have h := h G8 hG8
  refine r_iast (ws' := gW g a G8) C 5 rfl hi7 dX0_lastMayBreakAlone_34 (by rw [hG8]; rfl) ?_
  refine r_aload_n C dX0_lastMayBreakAlone_35 rfl ?_
  refine r_iconst (v := 1) C dX0_lastMayBreakAlone_36 (by decide) ?_
  obtain ⟨G9, hG9⟩ : ∃ z : RS, z = sI G8 6 1 := ⟨_, rfl⟩
  have h := h G9 hG9
  refine r_put (cn := RX0) (T := TX0) (N := 10) (ci := 0) (ws' := gW g a G9) C uwX0_lastMayBreakAlone_0 tyX0 tyX0_ok nmX0 0 rfl rfl 6 (by decide) kwX0_lastMayBreakAlone_0 rfl rfl rfl (Nat.le_of_ble_eq_true rfl) dX0_lastMayBreakAlone_37 (by rw [hG9]; rfl) ?_
  refine r_aload_n C dX0_lastMayBreakAlone_40 rfl ?_
  refine r_get (cn := RX0) (T := TX0) (N := 10) (ci := 0) C uwX0_lastMayBreakAlone_0 0 rfl rfl 7 (by decide) kwX0_lastMayBreakAlone_2 (v := .ref (a 7)) rfl dX0_lastMayBreakAlone_41 ?_
  refine r_iconst (v := 0) C dX0_lastMayBreakAlone_44 (by decide) ?_
  refine r_iconst (v := 1) C dX0_lastMayBreakAlone_45 (by decide) ?_
  obtain ⟨hi10, h⟩ := h
  obtain ⟨G11, hG11⟩ : ∃ z : RS, z = sA G9 7 (upd (G9.2.1 7) (0 : Int32).toNatClampNeg 1) := ⟨_, rfl⟩
  have h := h G11 hG11
  refine r_iast (ws' := gW g a G11) C 6 rfl hi10 dX0_lastMayBreakAlone_46 (by rw [hG11]; rfl) ?_
  refine r_iconst (v := 0) C dX0_lastMayBreakAlone_47 (by decide) ?_
  refine r_istore_n (lv' := [(0, .ref (a 50)), (1, .int 0)]) C dX0_lastMayBreakAlone_48 [some 0, none] (by decide) rfl rfl ?_
  refine wfX0_lastMayBreakAlone_49 C hZ (fun G20 h => ?_) N _ _ h
  refine r_iconst (v := 0) C dX0_lastMayBreakAlone_95 (by decide) ?_
  exact r_zret C hZ (u := G20) (by decide) h rfl dX0_lastMayBreakAlone_96
def rmX4_begin : Room := { frames := 0, cells := 0, slots := 0, locals := 0 }
theorem kwX4_begin_0 : Cond.fieldLink RX4 24 "WantsBench$Treaty" "size" "I" ∈ wsX4_begin := by decide +kernel
theorem uwX4_begin_4 : ∀ w ∈ wsX40, w ∈ wsX4_begin := by decide +kernel
theorem kwX4_begin_2 : Cond.fieldLink RX4 28 "WantsBench$Treaty" "bestPrice" "I" ∈ wsX4_begin := by decide +kernel
def fX4_begin (N : Nat) (Y : RS) (Q : RS → Prop) : Prop :=
  (∀ Y1 : RS, Y1 = sI Y 3 0 → (∀ Y2 : RS, Y2 = sI Y1 4 1000 → Q Y2))
set_option maxRecDepth 100000 in
set_option maxHeartbeats 4000000 in
theorem tX4_begin (l : Launch) (g : Gx) (a : Nat → Nat) (Y : RS) (si : Nat → Option Nat) (N : Nat) (Q : RS → Prop) (h : fX4_begin N Y Q) : MetG l g yX4_begin wsX4_begin rmX4_begin [.ref (a 50)] (yW g a Y si) (fun u : RS => yW g a u si) (qV (fun u : RS => Q u)) 0 0 := by
  refine met_of (cc := cX4_begin) (own := RX4) (nL := 1) (ret := none) (lv := [(0, .ref (a 50))]) (by decide) rfl rfl (Nat.le_of_ble_eq_true rfl) rfl ?_
  intro x C hl hZ
  subst hl
  unfold fX4_begin at h
  refine r_aload_n C dX4_begin_0 rfl ?_
  refine r_iconst (v := 0) C dX4_begin_1 (by decide) ?_
  obtain ⟨Y1, hY1⟩ : ∃ z : RS, z = sI Y 3 0 := ⟨_, rfl⟩
  have h := h Y1 hY1
  refine r_put (cn := RX4) (T := TX4) (N := 5) (ci := 4) (ws' := yW g a Y1 si) C uwX4_begin_4 tyX4 tyX4_ok nmX4 0 rfl rfl 3 (by decide) kwX4_begin_0 rfl rfl rfl (Nat.le_of_ble_eq_true rfl) dX4_begin_2 (by rw [hY1]; rfl) ?_
  refine r_aload_n C dX4_begin_5 rfl ?_
  refine r_sipush (v := 1000) C dX4_begin_6 (by decide) ?_
  obtain ⟨Y2, hY2⟩ : ∃ z : RS, z = sI Y1 4 1000 := ⟨_, rfl⟩
  have h := h Y2 hY2
  refine r_put (cn := RX4) (T := TX4) (N := 5) (ci := 4) (ws' := yW g a Y2 si) C uwX4_begin_4 tyX4 tyX4_ok nmX4 0 rfl rfl 4 (by decide) kwX4_begin_2 rfl rfl rfl (Nat.le_of_ble_eq_true rfl) dX4_begin_9 (by rw [hY2]; rfl) ?_
  exact r_vret C hZ (u := Y2) h rfl dX4_begin_12
def rmX4_invite : Room := { frames := 0, cells := 0, slots := 0, locals := 0 }
theorem kwX4_invite_0 : Cond.fieldLink RX4 24 "WantsBench$Treaty" "size" "I" ∈ wsX4_invite := by decide +kernel
theorem uwX4_invite_4 : ∀ w ∈ wsX40, w ∈ wsX4_invite := by decide +kernel
theorem kwX4_invite_2 : Cond.fieldLink RX4 13 "WantsBench$Treaty" "sides" "[LWantsBench$Law;" ∈ wsX4_invite := by decide +kernel
def fX4_invite (N : Nat) (q : Nat) (Y : RS) (si : Nat → Option Nat) (Q : RS → (Nat → Option Nat) → Prop) : Prop :=
  ((4 ≤ (Y.1 3) → Q Y si) ∧ (¬ 4 ≤ (Y.1 3) → (vp_in (Y.1 3) 4 ∧ (∀ si3 : Nat → Option Nat, si3 = va_up si (Y.1 3).toNatClampNeg (some q) → (∀ Y4 : RS, Y4 = sI Y 3 ((Y.1 3) + (1 : Int32)) → Q Y4 si3)))))
set_option maxRecDepth 100000 in
set_option maxHeartbeats 4000000 in
theorem tX4_invite (l : Launch) (g : Gx) (a : Nat → Nat) (q : Nat) (Y : RS) (si : Nat → Option Nat) (L : RS) (N : Nat) (Q : RS → (Nat → Option Nat) → Prop) (h : fX4_invite N q Y si Q) : MetG l g yX4_invite wsX4_invite rmX4_invite [.ref (a 50), .ref q] (yW g a Y si ++ [(q, lawE L)]) (fun u : RS × (Nat → Option Nat) => yW g a u.1 u.2 ++ [(q, lawE L)]) (qV (fun u : RS × (Nat → Option Nat) => Q u.1 u.2)) 0 0 := by
  refine met_of (cc := cX4_invite) (own := RX4) (nL := 2) (ret := none) (lv := [(0, .ref (a 50)), (1, .ref q)]) (by decide) rfl rfl (Nat.le_of_ble_eq_true rfl) rfl ?_
  intro x C hl hZ
  subst hl
  unfold fX4_invite at h
  refine r_aload_n C dX4_invite_0 rfl ?_
  refine r_get (cn := RX4) (T := TX4) (N := 5) (ci := 4) C uwX4_invite_4 0 rfl rfl 3 (by decide) kwX4_invite_0 (v := .int (Y.1 3)) rfl dX4_invite_1 ?_
  refine r_iconst (v := 4) C dX4_invite_4 (by decide) ?_
  refine r_icmp_ge (tgt := 28) C dX4_invite_5 (by decide) (fun c1 => ?_) (fun c1 => ?_)
  · have h := h.1 c1
    exact r_vret C hZ (u := (Y, si)) h rfl dX4_invite_28
  · have h := h.2 c1
    refine r_aload_n C dX4_invite_8 rfl ?_
    refine r_get (cn := RX4) (T := TX4) (N := 5) (ci := 4) C uwX4_invite_4 0 rfl rfl 0 (by decide) kwX4_invite_2 (v := .ref (a 0)) rfl dX4_invite_9 ?_
    refine r_aload_n C dX4_invite_12 rfl ?_
    refine r_get (cn := RX4) (T := TX4) (N := 5) (ci := 4) C uwX4_invite_4 0 rfl rfl 3 (by decide) kwX4_invite_0 (v := .int (Y.1 3)) rfl dX4_invite_13 ?_
    refine r_aload_n C dX4_invite_16 rfl ?_
    obtain ⟨hi2, h⟩ := h
    obtain ⟨si3, hsi3⟩ : ∃ z : Nat → Option Nat, z = va_up si (Y.1 3).toNatClampNeg (some q) := ⟨_, rfl⟩
    have h := h si3 hsi3
    refine r_aast (ws' := yW g a Y si3 ++ [(q, lawE L)]) C 1 rfl (List.mem_of_getElem? (i := 4) rfl) hi2 dX4_invite_17 (by rw [hsi3]; rfl) ?_
    refine r_aload_n C dX4_invite_18 rfl ?_
    refine r_dup C dX4_invite_19 rfl ?_
    refine r_get (cn := RX4) (T := TX4) (N := 5) (ci := 4) C uwX4_invite_4 0 rfl rfl 3 (by decide) kwX4_invite_0 (v := .int (Y.1 3)) rfl dX4_invite_20 ?_
    refine r_iconst (v := 1) C dX4_invite_23 (by decide) ?_
    refine r_iadd C dX4_invite_24 ?_
    obtain ⟨Y4, hY4⟩ : ∃ z : RS, z = sI Y 3 ((Y.1 3) + (1 : Int32)) := ⟨_, rfl⟩
    have h := h Y4 hY4
    refine r_put (cn := RX4) (T := TX4) (N := 5) (ci := 4) (ws' := yW g a Y4 si3 ++ [(q, lawE L)]) C uwX4_invite_4 tyX4 tyX4_ok nmX4 0 rfl rfl 3 (by decide) kwX4_invite_0 rfl rfl rfl (Nat.le_of_ble_eq_true rfl) dX4_invite_25 (by rw [hY4]; rfl) ?_
    exact r_vret C hZ (u := (Y4, si3)) h rfl dX4_invite_28
def rmX4_termOf : Room := { frames := 0, cells := 0, slots := 0, locals := 0 }
theorem kwX4_termOf_0 : Cond.fieldLink RX4 24 "WantsBench$Treaty" "size" "I" ∈ wsX4_termOf := by decide +kernel
theorem uwX4_termOf_4 : ∀ w ∈ wsX40, w ∈ wsX4_termOf := by decide +kernel
theorem kwX4_termOf_2 : Cond.fieldLink RX4 21 "WantsBench$Treaty" "best" "[I" ∈ wsX4_termOf := by decide +kernel
def fX4_termOf (N : Nat) (Y : RS) (v1 : Int32) (Q : Int32 → Prop) : Prop :=
  ((v1 < 0 → Q (-1)) ∧ (¬ v1 < 0 → (((Y.1 3) ≤ v1 → Q (-1)) ∧ (¬ (Y.1 3) ≤ v1 → (vp_in v1 4 ∧ Q (Y.2.1 2 v1.toNatClampNeg))))))
set_option maxRecDepth 100000 in
set_option maxHeartbeats 4000000 in
theorem tX4_termOf (l : Launch) (g : Gx) (a : Nat → Nat) (Y : RS) (si : Nat → Option Nat) (N : Nat) (v1 : Int32) (Q : Int32 → Prop) (h : fX4_termOf N Y v1 Q) : MetG l g yX4_termOf wsX4_termOf rmX4_termOf [.ref (a 50), .int v1] (yW g a Y si) (fun _ : Unit => yW g a Y si) (qI (fun (r : Int32) (_ : Unit) => Q r)) 0 0 := by
  refine met_of (cc := cX4_termOf) (own := RX4) (nL := 2) (ret := (some .int)) (lv := [(0, .ref (a 50)), (1, .int v1)]) (by decide) rfl rfl (Nat.le_of_ble_eq_true rfl) rfl ?_
  intro x C hl hZ
  subst hl
  unfold fX4_termOf at h
  refine r_iload_n C dX4_termOf_0 rfl ?_
  refine r_if_lt (tgt := 21) C dX4_termOf_1 (by decide) (fun c1 => ?_) (fun c1 => ?_)
  · have h := h.1 c1
    refine r_iconst (v := (-1)) C dX4_termOf_21 (by decide) ?_
    exact r_iret C hZ (u := ()) h rfl dX4_termOf_22
  · have h := h.2 c1
    refine r_iload_n C dX4_termOf_4 rfl ?_
    refine r_aload_n C dX4_termOf_5 rfl ?_
    refine r_get (cn := RX4) (T := TX4) (N := 5) (ci := 4) C uwX4_termOf_4 0 rfl rfl 3 (by decide) kwX4_termOf_0 (v := .int (Y.1 3)) rfl dX4_termOf_6 ?_
    refine r_icmp_ge (tgt := 21) C dX4_termOf_9 (by decide) (fun c2 => ?_) (fun c2 => ?_)
    · have h := h.1 c2
      refine r_iconst (v := (-1)) C dX4_termOf_21 (by decide) ?_
      exact r_iret C hZ (u := ()) h rfl dX4_termOf_22
    · have h := h.2 c2
      refine r_aload_n C dX4_termOf_12 rfl ?_
      refine r_get (cn := RX4) (T := TX4) (N := 5) (ci := 4) C uwX4_termOf_4 0 rfl rfl 2 (by decide) kwX4_termOf_2 (v := .ref (a 2)) rfl dX4_termOf_13 ?_
      refine r_iload_n C dX4_termOf_16 rfl ?_
      obtain ⟨hi3, h⟩ := h
      refine r_iald C 3 rfl hi3 dX4_termOf_17 ?_
      refine r_goto (tgt := 22) C dX4_termOf_18 (by decide) ?_
      exact r_iret C hZ (u := ()) h rfl dX4_termOf_22
