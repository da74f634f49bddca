theorem nest_in : ∀ w ∈ nestW, w ∈ lw_tbl := mem_by [77, 117, 132, 170, 579, 668, 669, 670] (by decide +kernel)
theorem arr_in : ∀ w ∈ ([.arrayClass .int, .arrayClass .long, .arrayClass .boolean, .arrayClass .byte, .arrayOver (.object RX1)] : List Cond), w ∈ lw_tbl := mem_by [112, 167, 851, 129, 114] (by decide +kernel)
theorem kl_0 : ∀ w ∈ ([.instantiable RX0 10, .instantiable RX1 11, .instantiable RX2 2, .instantiable RX3 8, .instantiable RX4 5, .instantiable RX5 13, .instantiable RX6 43] : List Cond), w ∈ lw_tbl := mem_by [131, 302, 116, 76, 169, 68, 716] (by decide +kernel)
theorem kl_1 : ∀ w ∈ ([.classLink RL 7 RX5, .instantiable RX5 13, .initialized RX5, .classLink RL 10 RX6, .instantiable RX6 43, .initialized RX6, .methodLink RL 9 yX5_init, .instanceMethod yX5_init] : List Cond), w ∈ wsL_law := mem_by [0, 1, 2, 3, 4, 5, 6, 7] (by decide +kernel)
theorem kl_2 : Cond.methodLink RL 12 yX6_init ∈ wsL_law := List.mem_of_getElem? (i := 61) (by decide +kernel)
theorem kl_3 : Cond.instanceMethod yX6_init ∈ wsL_law := List.mem_of_getElem? (i := 62) (by decide +kernel)
theorem prim_K {args : Array Value} {s : State} {ty : FieldType} (hno : ∀ C, ty ≠ .object C) (h : (Cond.arrayClass ty).before args s = true) : ∃ cA : ClassId, ArrOfT s cA ty ∧ va_RA s cA ty := by
  obtain ⟨cA, kA, comp, h1, h2, h3⟩ := Cond.arrayClass_spec h
  refine ⟨cA, fun n z => ⟨(fun k h => by cases h), kA, h2, comp, h3⟩, ?_⟩
  cases ty with
  | object C => exact absurd rfl (hno C)
  | _ => exact h1
theorem obj_K {args : Array Value} {s : State} {C : String} (h : (Cond.arrayOver (.object C)).before args s = true) : ∃ cA : ClassId, ArrOfT s cA (.object C) ∧ va_RA s cA (.object C) := by
  obtain ⟨comp, cA, kA, h1, -, h2, h3, h4⟩ := Cond.arrayOver_spec h
  exact ⟨cA, fun n z => ⟨(fun k h => by cases h), kA, h2, comp, h3⟩, kA, comp, h2, h3, h1, h4⟩
set_option maxRecDepth 100000 in
set_option maxHeartbeats 4000000 in
/-- THE LAW, over an invariant J of both sides -/
theorem whole_of {N : Nat} (J : RS → (Nat → Option Nat) → RS → RS → RS → RS → RS → (Nat → Option Nat) → List Nat → (Nat → RS) → RS → Prop) (hst : ∀ (sb : RS) (lw : Nat → Option Nat) (st : RS) (sp : RS) (sd : RS) (ss : RS) (sy : RS) (si : Nat → Option Nat) (lp : List Nat) (pf : Nat → RS) (S : RS), J sb lw st sp sd ss sy si lp pf S → cLall N sb lw st sp sd ss sy si lp pf S J) (h0 : J zRS (fun _ => none) zRS zRS zRS zRS zRS (fun _ => none) [] (fun _ => zRS) zRS) {p : Program} {e : Env} {s : State} {m : MethodId} {below : List Frame} {meth : Method} {c : Code} (l : Launch) {b L : Nat} {f : Nat → Int32} (hL : L ≤ 2560) (C0 : lw_At p s m meth c b L f) : W p l e room_1 s m #[Value.ref b] below meth c s.heap [] 0 0 (lw_Z below #[Value.ref b] s) (entryFrame m ([Value.ref b] : List Value).toArray 4) := by
  obtain ⟨hx, hb, hr, hml, hown, hts, hX, hbl, hlocks, hgv⟩ := id C0
  have hkl : ∀ w ∈ ([.instantiable RX0 10, .instantiable RX1 11, .instantiable RX2 2, .instantiable RX3 8, .instantiable RX4 5, .instantiable RX5 13, .instantiable RX6 43] : List Cond), w.before #[Value.ref b] s = true := fun w h => hts w (kl_0 w h)
  have har : ∀ w ∈ ([.arrayClass .int, .arrayClass .long, .arrayClass .boolean, .arrayClass .byte, .arrayOver (.object RX1)] : List Cond), w.before #[Value.ref b] s = true := fun w h => hts w (arr_in w h)
  obtain ⟨c0, iS0, hK0⟩ := u_known (C := RX0) (T := TX0) (N := 10) (n := 10) hts linx_0 (hkl _ (by simp))
  obtain ⟨c1, iS1, hK1⟩ := u_known (C := RX1) (T := TX1) (N := 11) (n := 11) hts linx_1 (hkl _ (by simp))
  obtain ⟨c2, iS2, hK2⟩ := u_known (C := RX2) (T := TX2) (N := 2) (n := 2) hts linx_2 (hkl _ (by simp))
  obtain ⟨c3, iS3, hK3⟩ := u_known (C := RX3) (T := TX3) (N := 8) (n := 8) hts linx_3 (hkl _ (by simp))
  obtain ⟨c4, iS4, hK4⟩ := u_known (C := RX4) (T := TX4) (N := 5) (n := 5) hts linx_4 (hkl _ (by simp))
  obtain ⟨c5, iS5, hK5⟩ := u_known (C := RX5) (T := TX5) (N := 13) (n := 13) hts linx_5 (hkl _ (by simp))
  obtain ⟨c6, iS6, hK6⟩ := u_known (C := RX6) (T := TX6) (N := 43) (n := 43) hts linx_6 (hkl _ (by simp))
  obtain ⟨k0, a0⟩ := prim_K (ty := .int) (fun C h => by cases h) (har _ (by simp))
  obtain ⟨k1, a1⟩ := prim_K (ty := .long) (fun C h => by cases h) (har _ (by simp))
  obtain ⟨k2, a2⟩ := prim_K (ty := .boolean) (fun C h => by cases h) (har _ (by simp))
  obtain ⟨k3, a3⟩ := prim_K (ty := .byte) (fun C h => by cases h) (har _ (by simp))
  obtain ⟨k4, a4⟩ := obj_K (C := RX1) (har _ (by simp))
  obtain ⟨g, hK⟩ : ∃ g : Gx, va_K g.1 vwCl (kty g) s := by
    refine ⟨((fun k => match k with | 0 => c0 | 1 => c1 | 2 => c2 | 3 => c3 | 4 => c4 | 5 => c5 | _ => c6, fun k => match k with | 0 => iS0 | 1 => iS1 | 2 => iS2 | 3 => iS3 | 4 => iS4 | 5 => iS5 | _ => iS6), fun k => match k with | 0 => k0 | 1 => k1 | 2 => k2 | 3 => k3 | _ => k4), ?_, ?_⟩
    · intro k q hq
      match k, hq with
      | 0, hq => cases hq; exact hK0
      | 1, hq => cases hq; exact hK1
      | 2, hq => cases hq; exact hK2
      | 3, hq => cases hq; exact hK3
      | 4, hq => cases hq; exact hK4
      | 5, hq => cases hq; exact hK5
      | 6, hq => cases hq; exact hK6
      | k + 7, hq => simp [vwCl] at hq
    · intro k q hq
      match k, hq with
      | 0, hq => cases hq; exact a0
      | 1, hq => cases hq; exact a1
      | 2, hq => cases hq; exact a2
      | 3, hq => cases hq; exact a3
      | 4, hq => cases hq; exact a4
      | k + 5, hq => simp [kty] at hq
  have hN : NW s := by
    refine ⟨fun w hw => ?_, va_AO.of (har (.arrayOver (.object RX1)) (by simp))⟩
    have h1 := hts w (nest_in w hw)
    simp only [nestW, List.mem_cons, List.not_mem_nil, or_false] at hw
    rcases hw with rfl | rfl | rfl | rfl | rfl | rfl | rfl | rfl <;> exact va_Nw.of rfl h1
  generalize hxd : (p, l, e, room_1, s, m, #[Value.ref b], below, meth, c, g, (fun q : Nat => s.heap.size ≤ q), lw_Z below #[Value.ref b] s, 4) = x
  have C : Cx x g cL_law RL wsL_law room_1 ⟨"", meth.name, ""⟩ ret 4 := by
    subst hxd
    exact ⟨⟨hx, hb, hml, hown, fun w h => hts w (wsL_law_in w h)⟩, hK, fun q h => h, rfl, rfl, hlocks, hr, rfl, rfl⟩
  have hNx : NW (xs x) := by subst hxd; exact hN
  have hXx : va_X b L f (xs x) (xs x).heap := by subst hxd; exact hX
  have hblx : b < (xs x).heap.size := by subst hxd; exact hbl
  have hbA : ¬ xA x b := by subst hxd; exact Nat.not_le.mpr hbl
  have hend : ∀ (ws : va_W) (lv : List (Nat × Value)) (cells slots : Nat), cells ≤ 600000 → slots ≤ 7302250 → St x cells slots ws lv [.int 1] 1032 := by
    subst hxd
    intro ws lv cells slots hc hs H locs ls hP hD hS hl
    exact va_forget (fun q hq => hS.2.2 q hq) (W.widen hc hs (lw_ret hx hb hr hlocks dL_law_1032))
  have key : St x 0 0 [] [(0, .ref b)] [] 0 := by
    refine r_newobj C inlX5 tyX5 tyX5_ok (kl_1 (.classLink RL 7 RX5) (by simp)) (kl_1 (.instantiable RX5 13) (by simp)) (kl_1 (.initialized RX5) (by simp)) (ci := 5) rfl (fs := [.null, .null, .int 0, .int 0, .null, .int 0, .null, .null, .null, .int 0, .int 0, .null, .int 0]) df_X5 (Nat.le_of_ble_eq_true rfl) (Nat.le_of_ble_eq_true rfl) dL_law_0 (fun q => ?_)
    show St x 1 13 [(q, .inr (5, [.null, .null, .int 0, .int 0, .null, .int 0, .null, .null, .null, .int 0, .int 0, .null, .int 0]))] _ _ 3
    refine r_dup C dL_law_3 rfl ?_
    refine callW_V C (run_I (As := []) (rest := [.ref q]) C hNx (tX5_init _ g q) gL_law_X5_init (kl_1 (.initialized RX5) (by simp)) (kl_1 (.methodLink RL 9 yX5_init) (by simp)) (kl_1 (.instanceMethod yX5_init) (by simp)) rfl rfl dsX5_init rfl rfl ⟨(Nat.le_of_ble_eq_true rfl), (Nat.le_of_ble_eq_true rfl)⟩ rfl (Nat.le_of_ble_eq_true rfl) dL_law_4 ⟨(Nat.le_of_ble_eq_true rfl), (Nat.le_of_ble_eq_true rfl)⟩) (fun a h => ?_)
    have h : a 0 50 = q := h
    subst h
    refine r_astore_n (lv' := [(0, .ref b), (1, .ref (a 0 50))]) C dL_law_7 [some 0, none] (by decide) rfl rfl ?_
    refine r_newobj C inlX6 tyX6 tyX6_ok (kl_1 (.classLink RL 10 RX6) (by simp)) (kl_1 (.instantiable RX6 43) (by simp)) (kl_1 (.initialized RX6) (by simp)) (ci := 6) rfl (fs := [.int 0, .null, .int 0, .null, .null, .null, .null, .null, .null, .null, .null, .null, .null, .int 0, .null, .null, .int 0, .int 0, .null, .null, .null, .int 0, .int 0, .int 0, .null, .null, .int 0, .int 0, .null, .int 0, .null, .int 0, .int 0, .null, .null, .int 0, .int 0, .int 0, .int 0, .null, .null, .null, .int 0]) df_X6 (Nat.le_of_ble_eq_true rfl) (Nat.le_of_ble_eq_true rfl) dL_law_8 (fun q => ?_)
    refine r_dup C dL_law_11 rfl ?_
    refine callP_V (ws' := fun z => lawW g a z zRS (fun _ => none) zRS zRS zRS zRS zRS (fun _ => none) [] (fun _ => zRS) zRS) C (run_I (As := []) (rest := [.ref q]) C hNx (tX6_init _ g q) gL_law_X6_init (kl_1 (.initialized RX6) (by simp)) kl_2 kl_3 rfl rfl dsX6_init rfl rfl ⟨(Nat.le_of_ble_eq_true rfl), (Nat.le_of_ble_eq_true rfl)⟩ rfl (Nat.le_of_ble_eq_true rfl) dL_law_12 ⟨(Nat.le_of_ble_eq_true rfl), (Nat.le_of_ble_eq_true rfl)⟩) List.perm_append_comm (fun _ => List.perm_append_comm) (fun e h => ?_)
    have h : e 50 = q := h
    subst h
    refine r_astore_n (lv' := [(0, .ref b), (1, .ref (a 0 50)), (2, .ref (e 50))]) C dL_law_15 [some 0, some 1, none] (by decide) rfl rfl ?_
    refine r_iconst (v := nI 0) C dL_law_16 (by decide) ?_
    refine r_istore_n (lv' := [(0, .ref b), (1, .ref (a 0 50)), (2, .ref (e 50)), (3, .int (nI 0))]) C dL_law_17 [some 0, some 1, some 2, none] (by decide) rfl rfl ?_
    exact law_loop C hNx hXx hblx hbA hL hst hend 600 0 _ _ _ _ _ _ _ _ _ _ _ _ _ (by omega) (by omega) (Nat.le_of_ble_eq_true rfl) (Nat.le_of_ble_eq_true rfl) h0
  subst hxd
  have hl := lv_entry ([.ref b]) (n := 4) (Nat.le_of_ble_eq_true rfl)
  rw [lg_entry_eq]
  exact key s.heap [] _ (fun k q h => by simp at h) ⟨fun i j p q h => by simp at h, fun k q h => by simp at h⟩ va_S.rf hl
