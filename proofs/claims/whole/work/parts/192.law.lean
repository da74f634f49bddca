section LAWROWS
variable {x : Nx} {g : Gx} {cc : ByteArray} {own : String} {Ts : List Cond} {rm : Room} {y : MethodName} {ret : Option FieldType} {nL cells slots pc : Nat} {ws : va_W} {lv : List (Nat × Value)} {st : List Value}
theorem r_sld (C : Cx x g cc own Ts rm y ret nL) {b L : Nat} {f : Nat → Int32} (hX : va_X b L f (xs x) (xs x).heap) (hbl : b < (xs x).heap.size) (hbA : ¬ xA x b) {i : Int32} (hin : vp_in i L) (hd : decode cc pc = .ok (.iaload, 1)) (kk : St x cells slots ws lv (.int (f i.toNatClampNeg) :: st) (pc + 1)) : St x cells slots ws lv (.int i :: .ref b :: st) pc := fun H locs ls hP hD hS hl => va_sld C.1.1 C.1.2.1 hX hbl hbA hS hin hd (kk H locs ls hP hD hS hl)
theorem r_slen (C : Cx x g cc own Ts rm y ret nL) {b L : Nat} {f : Nat → Int32} (hX : va_X b L f (xs x) (xs x).heap) (hbl : b < (xs x).heap.size) (hbA : ¬ xA x b) (hd : decode cc pc = .ok (.arraylength, 1)) (kk : St x cells slots ws lv (.int (nI L) :: st) (pc + 1)) : St x cells slots ws lv (.ref b :: st) pc := fun H locs ls hP hD hS hl => va_slen C.1.1 C.1.2.1 hX hbl hbA hS hd (kk H locs ls hP hD hS hl)
end LAWROWS
def lawW (g : Gx) (a : Nat → Nat → Nat) (e : Nat → Nat) (sb : RS) (lw : Nat → Option Nat) (st sp sd ss sy : RS) (si : Nat → Option Nat) (lp : List Nat) (pf : Nat → RS) (S : RS) : va_W := sysW g a sb lw st sp sd ss sy si lp pf ++ mW g e S
/-- the state of both sides -/
abbrev AS : Type := RS × (Nat → Option Nat) × RS × RS × RS × RS × RS × (Nat → Option Nat) × List Nat × (Nat → RS) × RS
theorem vp_in_off {j L c : Nat} (h : j + 5 ≤ L) (hc : c < 5) (hL : L ≤ 2560) : vp_in (nI j + nI c) L := by
  rw [nI_add]
  exact vp_in_nI (by omega) (by omega)

def cL_0 (N : Nat) (sb : RS) (lw : Nat → Option Nat) (st : RS) (sp : RS) (sd : RS) (ss : RS) (sy : RS) (si : Nat → Option Nat) (lp : List Nat) (pf : Nat → RS) (S : RS) (i0 : Int32) (R : RS → (Nat → Option Nat) → RS → RS → RS → RS → RS → (Nat → Option Nat) → List Nat → (Nat → RS) → RS → Prop) : Prop :=
  fX5_today N sb i0 (fun r1 sb1 => fX6_today N S i0 (fun r2 S1 => (r1 = r2 ∧ R sb1 lw st sp sd ss sy si lp pf S1)))
set_option maxRecDepth 100000 in
set_option maxHeartbeats 4000000 in
theorem wL_0 {x : Nx} {g : Gx} {y : MethodName} {ret : Option FieldType} {a : Nat → Nat → Nat} {e : Nat → Nat} {sb : RS} {lw : Nat → Option Nat} {st : RS} {sp : RS} {sd : RS} {ss : RS} {sy : RS} {si : Nat → Option Nat} {lp : List Nat} {pf : Nat → RS} {S : RS} {N cells slots j b L : Nat} {f : Nat → Int32} {R : RS → (Nat → Option Nat) → RS → RS → RS → RS → RS → (Nat → Option Nat) → List Nat → (Nat → RS) → RS → Prop} (C : Cx x g cL_law RL wsL_law room_1 y ret 4) (hN : NW (xs x)) (hX : va_X b L f (xs x) (xs x).heap) (hbl : b < (xs x).heap.size) (hbA : ¬ xA x b) (hL : L ≤ 2560) (hj : j + 5 ≤ L) (hc : cells + 1 ≤ 600000) (hs : slots + 11 ≤ 7302250) (hR : ∀ sb lw st sp sd ss sy si lp pf S, R sb lw st sp sd ss sy si lp pf S → St x (cells + 1) (slots + 11) (lawW g a e sb lw st sp sd ss sy si lp pf S) [(0, .ref b), (1, .ref (a 0 50)), (2, .ref (e 50)), (3, .int (nI j))] [] 1025) (h : cL_0 N sb lw st sp sd ss sy si lp pf S (f (nI j + 1).toNatClampNeg) R) : St x cells slots (lawW g a e sb lw st sp sd ss sy si lp pf S) [(0, .ref b), (1, .ref (a 0 50)), (2, .ref (e 50)), (3, .int (nI j))] [] 172 := by
  unfold cL_0 at h
  refine r_aload_n C dL_law_172 rfl ?_
  refine r_aload_n C dL_law_173 rfl ?_
  refine r_iload_n C dL_law_174 rfl ?_
  refine r_iconst (v := 1) C dL_law_175 (by decide) ?_
  refine r_iadd C dL_law_176 ?_
  refine r_sld C hX hbl hbA (vp_in_off hj (c := 1) (by decide) hL) dL_law_177 ?_
  refine callP_I (ws' := fun z => lawW g a e z lw st sp sd ss sy si lp pf S) C (run_V (As := [.int (f (nI j + 1).toNatClampNeg)]) (rest := []) (ci := 5) C hN (tX5_today _ g a sb lw st sp sd ss sy si lp pf N (f (nI j + 1).toNatClampNeg) _ h) gL_law_X5_today rfl dsX5_today rfl rfl ⟨(Nat.le_of_ble_eq_true rfl), (Nat.le_of_ble_eq_true rfl)⟩ rfl (List.mem_append_left _ (List.mem_of_getElem? (i := 0) rfl)) rfl (Nat.le_of_ble_eq_true rfl) dL_law_178 ⟨by show _ ≤ 600000; omega, by show _ ≤ 7302250; omega⟩) pm0 (fun _ => pm0) (fun r1 sb1 h => ?_)
  show St x _ _ (lawW g a e sb1 lw st sp sd ss sy si lp pf S) _ _ 181
  refine r_aload_n C dL_law_181 rfl ?_
  refine r_aload_n C dL_law_182 rfl ?_
  refine r_iload_n C dL_law_183 rfl ?_
  refine r_iconst (v := 1) C dL_law_184 (by decide) ?_
  refine r_iadd C dL_law_185 ?_
  refine r_sld C hX hbl hbA (vp_in_off hj (c := 1) (by decide) hL) dL_law_186 ?_
  refine callP_I (ws' := fun z => lawW g a e sb1 lw st sp sd ss sy si lp pf z) C (run_V (As := [.int (f (nI j + 1).toNatClampNeg)]) (rest := [.int r1]) (ci := 6) C hN (tX6_today _ g e S N (f (nI j + 1).toNatClampNeg) _ h) gL_law_X6_today rfl dsX6_today rfl rfl ⟨(Nat.le_of_ble_eq_true rfl), (Nat.le_of_ble_eq_true rfl)⟩ rfl (List.mem_append_right _ (List.mem_of_getElem? (i := 0) rfl)) rfl (Nat.le_of_ble_eq_true rfl) dL_law_187 ⟨by show _ ≤ 600000; omega, by show _ ≤ 7302250; omega⟩) List.perm_append_comm (fun _ => List.perm_append_comm) (fun r2 S1 h => ?_)
  show St x _ _ (lawW g a e sb1 lw st sp sd ss sy si lp pf S1) _ _ 190
  obtain ⟨he, h⟩ := h
  refine r_icmp_eq (tgt := 1025) C dL_law_190 (by decide) (fun _ => ?_) (fun c => absurd he c)
  exact r_widen (by omega) (by omega) (hR sb1 lw st sp sd ss sy si lp pf S1 h)
def cL_1 (N : Nat) (sb : RS) (lw : Nat → Option Nat) (st : RS) (sp : RS) (sd : RS) (ss : RS) (sy : RS) (si : Nat → Option Nat) (lp : List Nat) (pf : Nat → RS) (S : RS) (i0 : Int32) (i1 : Int32) (R : RS → (Nat → Option Nat) → RS → RS → RS → RS → RS → (Nat → Option Nat) → List Nat → (Nat → RS) → RS → Prop) : Prop :=
  fX5_feed N st i0 i1 (fun r1 st1 => fX6_feed N S i0 i1 (fun r2 S1 => (r1 = r2 ∧ R sb lw st1 sp sd ss sy si lp pf S1)))
set_option maxRecDepth 100000 in
set_option maxHeartbeats 4000000 in
theorem wL_1 {x : Nx} {g : Gx} {y : MethodName} {ret : Option FieldType} {a : Nat → Nat → Nat} {e : Nat → Nat} {sb : RS} {lw : Nat → Option Nat} {st : RS} {sp : RS} {sd : RS} {ss : RS} {sy : RS} {si : Nat → Option Nat} {lp : List Nat} {pf : Nat → RS} {S : RS} {N cells slots j b L : Nat} {f : Nat → Int32} {R : RS → (Nat → Option Nat) → RS → RS → RS → RS → RS → (Nat → Option Nat) → List Nat → (Nat → RS) → RS → Prop} (C : Cx x g cL_law RL wsL_law room_1 y ret 4) (hN : NW (xs x)) (hX : va_X b L f (xs x) (xs x).heap) (hbl : b < (xs x).heap.size) (hbA : ¬ xA x b) (hL : L ≤ 2560) (hj : j + 5 ≤ L) (hc : cells + 1 ≤ 600000) (hs : slots + 11 ≤ 7302250) (hR : ∀ sb lw st sp sd ss sy si lp pf S, R sb lw st sp sd ss sy si lp pf S → St x (cells + 1) (slots + 11) (lawW g a e sb lw st sp sd ss sy si lp pf S) [(0, .ref b), (1, .ref (a 0 50)), (2, .ref (e 50)), (3, .int (nI j))] [] 1025) (h : cL_1 N sb lw st sp sd ss sy si lp pf S (f (nI j + 1).toNatClampNeg) (f (nI j + 2).toNatClampNeg) R) : St x cells slots (lawW g a e sb lw st sp sd ss sy si lp pf S) [(0, .ref b), (1, .ref (a 0 50)), (2, .ref (e 50)), (3, .int (nI j))] [] 195 := by
  unfold cL_1 at h
  refine r_aload_n C dL_law_195 rfl ?_
  refine r_aload_n C dL_law_196 rfl ?_
  refine r_iload_n C dL_law_197 rfl ?_
  refine r_iconst (v := 1) C dL_law_198 (by decide) ?_
  refine r_iadd C dL_law_199 ?_
  refine r_sld C hX hbl hbA (vp_in_off hj (c := 1) (by decide) hL) dL_law_200 ?_
  refine r_aload_n C dL_law_201 rfl ?_
  refine r_iload_n C dL_law_202 rfl ?_
  refine r_iconst (v := 2) C dL_law_203 (by decide) ?_
  refine r_iadd C dL_law_204 ?_
  refine r_sld C hX hbl hbA (vp_in_off hj (c := 2) (by decide) hL) dL_law_205 ?_
  refine callP_I (ws' := fun z => lawW g a e sb lw z sp sd ss sy si lp pf S) C (run_V (As := [.int (f (nI j + 1).toNatClampNeg), .int (f (nI j + 2).toNatClampNeg)]) (rest := []) (ci := 5) C hN (tX5_feed _ g a sb lw st sp sd ss sy si lp pf N (f (nI j + 1).toNatClampNeg) (f (nI j + 2).toNatClampNeg) _ h) gL_law_X5_feed rfl dsX5_feed rfl rfl ⟨(Nat.le_of_ble_eq_true rfl), (Nat.le_of_ble_eq_true rfl)⟩ rfl (List.mem_append_left _ (List.mem_of_getElem? (i := 0) rfl)) rfl (Nat.le_of_ble_eq_true rfl) dL_law_206 ⟨by show _ ≤ 600000; omega, by show _ ≤ 7302250; omega⟩) pm0 (fun _ => pm0) (fun r1 st1 h => ?_)
  show St x _ _ (lawW g a e sb lw st1 sp sd ss sy si lp pf S) _ _ 209
  refine r_aload_n C dL_law_209 rfl ?_
  refine r_aload_n C dL_law_210 rfl ?_
  refine r_iload_n C dL_law_211 rfl ?_
  refine r_iconst (v := 1) C dL_law_212 (by decide) ?_
  refine r_iadd C dL_law_213 ?_
  refine r_sld C hX hbl hbA (vp_in_off hj (c := 1) (by decide) hL) dL_law_214 ?_
  refine r_aload_n C dL_law_215 rfl ?_
  refine r_iload_n C dL_law_216 rfl ?_
  refine r_iconst (v := 2) C dL_law_217 (by decide) ?_
  refine r_iadd C dL_law_218 ?_
  refine r_sld C hX hbl hbA (vp_in_off hj (c := 2) (by decide) hL) dL_law_219 ?_
  refine callP_I (ws' := fun z => lawW g a e sb lw st1 sp sd ss sy si lp pf z) C (run_V (As := [.int (f (nI j + 1).toNatClampNeg), .int (f (nI j + 2).toNatClampNeg)]) (rest := [.int r1]) (ci := 6) C hN (tX6_feed _ g e S N (f (nI j + 1).toNatClampNeg) (f (nI j + 2).toNatClampNeg) _ h) gL_law_X6_feed rfl dsX6_feed rfl rfl ⟨(Nat.le_of_ble_eq_true rfl), (Nat.le_of_ble_eq_true rfl)⟩ rfl (List.mem_append_right _ (List.mem_of_getElem? (i := 0) rfl)) rfl (Nat.le_of_ble_eq_true rfl) dL_law_220 ⟨by show _ ≤ 600000; omega, by show _ ≤ 7302250; omega⟩) List.perm_append_comm (fun _ => List.perm_append_comm) (fun r2 S1 h => ?_)
  show St x _ _ (lawW g a e sb lw st1 sp sd ss sy si lp pf S1) _ _ 223
  obtain ⟨he, h⟩ := h
  refine r_icmp_eq (tgt := 1025) C dL_law_223 (by decide) (fun _ => ?_) (fun c => absurd he c)
  exact r_widen (by omega) (by omega) (hR sb lw st1 sp sd ss sy si lp pf S1 h)
def cL_2 (N : Nat) (sb : RS) (lw : Nat → Option Nat) (st : RS) (sp : RS) (sd : RS) (ss : RS) (sy : RS) (si : Nat → Option Nat) (lp : List Nat) (pf : Nat → RS) (S : RS) (i0 : Int32) (i1 : Int32) (i2 : Int32) (R : RS → (Nat → Option Nat) → RS → RS → RS → RS → RS → (Nat → Option Nat) → List Nat → (Nat → RS) → RS → Prop) : Prop :=
  fX5_want N sb lw st lp pf i0 i1 i2 (fun r1 sb1 lw1 st1 lp1 pf1 => fX6_want N S i0 i1 i2 (fun r2 S1 => (r1 = r2 ∧ R sb1 lw1 st1 sp sd ss sy si lp1 pf1 S1)))
set_option maxRecDepth 100000 in
set_option maxHeartbeats 4000000 in
theorem wL_2 {x : Nx} {g : Gx} {y : MethodName} {ret : Option FieldType} {a : Nat → Nat → Nat} {e : Nat → Nat} {sb : RS} {lw : Nat → Option Nat} {st : RS} {sp : RS} {sd : RS} {ss : RS} {sy : RS} {si : Nat → Option Nat} {lp : List Nat} {pf : Nat → RS} {S : RS} {N cells slots j b L : Nat} {f : Nat → Int32} {R : RS → (Nat → Option Nat) → RS → RS → RS → RS → RS → (Nat → Option Nat) → List Nat → (Nat → RS) → RS → Prop} (C : Cx x g cL_law RL wsL_law room_1 y ret 4) (hN : NW (xs x)) (hX : va_X b L f (xs x) (xs x).heap) (hbl : b < (xs x).heap.size) (hbA : ¬ xA x b) (hL : L ≤ 2560) (hj : j + 5 ≤ L) (hc : cells + 1 ≤ 600000) (hs : slots + 11 ≤ 7302250) (hR : ∀ sb lw st sp sd ss sy si lp pf S, R sb lw st sp sd ss sy si lp pf S → St x (cells + 1) (slots + 11) (lawW g a e sb lw st sp sd ss sy si lp pf S) [(0, .ref b), (1, .ref (a 0 50)), (2, .ref (e 50)), (3, .int (nI j))] [] 1025) (h : cL_2 N sb lw st sp sd ss sy si lp pf S (f (nI j + 1).toNatClampNeg) (f (nI j + 2).toNatClampNeg) (f (nI j + 3).toNatClampNeg) R) : St x cells slots (lawW g a e sb lw st sp sd ss sy si lp pf S) [(0, .ref b), (1, .ref (a 0 50)), (2, .ref (e 50)), (3, .int (nI j))] [] 228 := by
  unfold cL_2 at h
  refine r_aload_n C dL_law_228 rfl ?_
  refine r_aload_n C dL_law_229 rfl ?_
  refine r_iload_n C dL_law_230 rfl ?_
  refine r_iconst (v := 1) C dL_law_231 (by decide) ?_
  refine r_iadd C dL_law_232 ?_
  refine r_sld C hX hbl hbA (vp_in_off hj (c := 1) (by decide) hL) dL_law_233 ?_
  refine r_aload_n C dL_law_234 rfl ?_
  refine r_iload_n C dL_law_235 rfl ?_
  refine r_iconst (v := 2) C dL_law_236 (by decide) ?_
  refine r_iadd C dL_law_237 ?_
  refine r_sld C hX hbl hbA (vp_in_off hj (c := 2) (by decide) hL) dL_law_238 ?_
  refine r_aload_n C dL_law_239 rfl ?_
  refine r_iload_n C dL_law_240 rfl ?_
  refine r_iconst (v := 3) C dL_law_241 (by decide) ?_
  refine r_iadd C dL_law_242 ?_
  refine r_sld C hX hbl hbA (vp_in_off hj (c := 3) (by decide) hL) dL_law_243 ?_
  refine callP_I (ws' := fun z => lawW g a e z.1 z.2.1 z.2.2.1 sp sd ss sy si z.2.2.2.1 z.2.2.2.2 S) C (run_V (As := [.int (f (nI j + 1).toNatClampNeg), .int (f (nI j + 2).toNatClampNeg), .int (f (nI j + 3).toNatClampNeg)]) (rest := []) (ci := 5) C hN (tX5_want _ g a sb lw st sp sd ss sy si lp pf N (f (nI j + 1).toNatClampNeg) (f (nI j + 2).toNatClampNeg) (f (nI j + 3).toNatClampNeg) _ h) gL_law_X5_want rfl dsX5_want rfl rfl ⟨(Nat.le_of_ble_eq_true rfl), (Nat.le_of_ble_eq_true rfl)⟩ rfl (List.mem_append_left _ (List.mem_of_getElem? (i := 0) rfl)) rfl (Nat.le_of_ble_eq_true rfl) dL_law_244 ⟨by show _ ≤ 600000; omega, by show _ ≤ 7302250; omega⟩) pm0 (fun _ => pm0) (fun r1 u h => ?_)
  obtain ⟨sb1, lw1, st1, lp1, pf1⟩ := u
  show St x _ _ (lawW g a e sb1 lw1 st1 sp sd ss sy si lp1 pf1 S) _ _ 247
  refine r_aload_n C dL_law_247 rfl ?_
  refine r_aload_n C dL_law_248 rfl ?_
  refine r_iload_n C dL_law_249 rfl ?_
  refine r_iconst (v := 1) C dL_law_250 (by decide) ?_
  refine r_iadd C dL_law_251 ?_
  refine r_sld C hX hbl hbA (vp_in_off hj (c := 1) (by decide) hL) dL_law_252 ?_
  refine r_aload_n C dL_law_253 rfl ?_
  refine r_iload_n C dL_law_254 rfl ?_
  refine r_iconst (v := 2) C dL_law_255 (by decide) ?_
  refine r_iadd C dL_law_256 ?_
  refine r_sld C hX hbl hbA (vp_in_off hj (c := 2) (by decide) hL) dL_law_257 ?_
  refine r_aload_n C dL_law_258 rfl ?_
  refine r_iload_n C dL_law_259 rfl ?_
  refine r_iconst (v := 3) C dL_law_260 (by decide) ?_
  refine r_iadd C dL_law_261 ?_
  refine r_sld C hX hbl hbA (vp_in_off hj (c := 3) (by decide) hL) dL_law_262 ?_
  refine callP_I (ws' := fun z => lawW g a e sb1 lw1 st1 sp sd ss sy si lp1 pf1 z) C (run_V (As := [.int (f (nI j + 1).toNatClampNeg), .int (f (nI j + 2).toNatClampNeg), .int (f (nI j + 3).toNatClampNeg)]) (rest := [.int r1]) (ci := 6) C hN (tX6_want _ g e S N (f (nI j + 1).toNatClampNeg) (f (nI j + 2).toNatClampNeg) (f (nI j + 3).toNatClampNeg) _ h) gL_law_X6_want rfl dsX6_want rfl rfl ⟨(Nat.le_of_ble_eq_true rfl), (Nat.le_of_ble_eq_true rfl)⟩ rfl (List.mem_append_right _ (List.mem_of_getElem? (i := 0) rfl)) rfl (Nat.le_of_ble_eq_true rfl) dL_law_263 ⟨by show _ ≤ 600000; omega, by show _ ≤ 7302250; omega⟩) List.perm_append_comm (fun _ => List.perm_append_comm) (fun r2 S1 h => ?_)
  show St x _ _ (lawW g a e sb1 lw1 st1 sp sd ss sy si lp1 pf1 S1) _ _ 266
  obtain ⟨he, h⟩ := h
  refine r_icmp_eq (tgt := 1025) C dL_law_266 (by decide) (fun _ => ?_) (fun c => absurd he c)
  exact r_widen (by omega) (by omega) (hR sb1 lw1 st1 sp sd ss sy si lp1 pf1 S1 h)
def cL_3 (N : Nat) (sb : RS) (lw : Nat → Option Nat) (st : RS) (sp : RS) (sd : RS) (ss : RS) (sy : RS) (si : Nat → Option Nat) (lp : List Nat) (pf : Nat → RS) (S : RS) (i0 : Int32) (R : RS → (Nat → Option Nat) → RS → RS → RS → RS → RS → (Nat → Option Nat) → List Nat → (Nat → RS) → RS → Prop) : Prop :=
  fX5_giveUp N sb lw lp pf i0 (fun r1 pf1 => fX6_giveUp N S i0 (fun r2 S1 => (r1 = r2 ∧ R sb lw st sp sd ss sy si lp pf1 S1)))
set_option maxRecDepth 100000 in
set_option maxHeartbeats 4000000 in
theorem wL_3 {x : Nx} {g : Gx} {y : MethodName} {ret : Option FieldType} {a : Nat → Nat → Nat} {e : Nat → Nat} {sb : RS} {lw : Nat → Option Nat} {st : RS} {sp : RS} {sd : RS} {ss : RS} {sy : RS} {si : Nat → Option Nat} {lp : List Nat} {pf : Nat → RS} {S : RS} {N cells slots j b L : Nat} {f : Nat → Int32} {R : RS → (Nat → Option Nat) → RS → RS → RS → RS → RS → (Nat → Option Nat) → List Nat → (Nat → RS) → RS → Prop} (C : Cx x g cL_law RL wsL_law room_1 y ret 4) (hN : NW (xs x)) (hX : va_X b L f (xs x) (xs x).heap) (hbl : b < (xs x).heap.size) (hbA : ¬ xA x b) (hL : L ≤ 2560) (hj : j + 5 ≤ L) (hc : cells + 1 ≤ 600000) (hs : slots + 11 ≤ 7302250) (hR : ∀ sb lw st sp sd ss sy si lp pf S, R sb lw st sp sd ss sy si lp pf S → St x (cells + 1) (slots + 11) (lawW g a e sb lw st sp sd ss sy si lp pf S) [(0, .ref b), (1, .ref (a 0 50)), (2, .ref (e 50)), (3, .int (nI j))] [] 1025) (h : cL_3 N sb lw st sp sd ss sy si lp pf S (f (nI j + 1).toNatClampNeg) R) : St x cells slots (lawW g a e sb lw st sp sd ss sy si lp pf S) [(0, .ref b), (1, .ref (a 0 50)), (2, .ref (e 50)), (3, .int (nI j))] [] 271 := by
  unfold cL_3 at h
  refine r_aload_n C dL_law_271 rfl ?_
  refine r_aload_n C dL_law_272 rfl ?_
  refine r_iload_n C dL_law_273 rfl ?_
  refine r_iconst (v := 1) C dL_law_274 (by decide) ?_
  refine r_iadd C dL_law_275 ?_
  refine r_sld C hX hbl hbA (vp_in_off hj (c := 1) (by decide) hL) dL_law_276 ?_
  refine callP_I (ws' := fun z => lawW g a e sb lw st sp sd ss sy si lp z S) C (run_V (As := [.int (f (nI j + 1).toNatClampNeg)]) (rest := []) (ci := 5) C hN (tX5_giveUp _ g a sb lw st sp sd ss sy si lp pf N (f (nI j + 1).toNatClampNeg) _ h) gL_law_X5_giveUp rfl dsX5_giveUp rfl rfl ⟨(Nat.le_of_ble_eq_true rfl), (Nat.le_of_ble_eq_true rfl)⟩ rfl (List.mem_append_left _ (List.mem_of_getElem? (i := 0) rfl)) rfl (Nat.le_of_ble_eq_true rfl) dL_law_277 ⟨by show _ ≤ 600000; omega, by show _ ≤ 7302250; omega⟩) pm0 (fun _ => pm0) (fun r1 pf1 h => ?_)
  show St x _ _ (lawW g a e sb lw st sp sd ss sy si lp pf1 S) _ _ 280
  refine r_aload_n C dL_law_280 rfl ?_
  refine r_aload_n C dL_law_281 rfl ?_
  refine r_iload_n C dL_law_282 rfl ?_
  refine r_iconst (v := 1) C dL_law_283 (by decide) ?_
  refine r_iadd C dL_law_284 ?_
  refine r_sld C hX hbl hbA (vp_in_off hj (c := 1) (by decide) hL) dL_law_285 ?_
  refine callP_I (ws' := fun z => lawW g a e sb lw st sp sd ss sy si lp pf1 z) C (run_V (As := [.int (f (nI j + 1).toNatClampNeg)]) (rest := [.int r1]) (ci := 6) C hN (tX6_giveUp _ g e S N (f (nI j + 1).toNatClampNeg) _ h) gL_law_X6_giveUp rfl dsX6_giveUp rfl rfl ⟨(Nat.le_of_ble_eq_true rfl), (Nat.le_of_ble_eq_true rfl)⟩ rfl (List.mem_append_right _ (List.mem_of_getElem? (i := 0) rfl)) rfl (Nat.le_of_ble_eq_true rfl) dL_law_286 ⟨by show _ ≤ 600000; omega, by show _ ≤ 7302250; omega⟩) List.perm_append_comm (fun _ => List.perm_append_comm) (fun r2 S1 h => ?_)
  show St x _ _ (lawW g a e sb lw st sp sd ss sy si lp pf1 S1) _ _ 289
  obtain ⟨he, h⟩ := h
  refine r_icmp_eq (tgt := 1025) C dL_law_289 (by decide) (fun _ => ?_) (fun c => absurd he c)
  exact r_widen (by omega) (by omega) (hR sb lw st sp sd ss sy si lp pf1 S1 h)
def cL_4 (N : Nat) (sb : RS) (lw : Nat → Option Nat) (st : RS) (sp : RS) (sd : RS) (ss : RS) (sy : RS) (si : Nat → Option Nat) (lp : List Nat) (pf : Nat → RS) (S : RS) (i0 : Int32) (i1 : Int32) (R : RS → (Nat → Option Nat) → RS → RS → RS → RS → RS → (Nat → Option Nat) → List Nat → (Nat → RS) → RS → Prop) : Prop :=
  fX5_about N sb lw lp pf i0 i1 (fun r1 => fX6_about N S i0 i1 (fun r2 => (r1 = r2 ∧ R sb lw st sp sd ss sy si lp pf S)))
set_option maxRecDepth 100000 in
set_option maxHeartbeats 4000000 in
theorem wL_4 {x : Nx} {g : Gx} {y : MethodName} {ret : Option FieldType} {a : Nat → Nat → Nat} {e : Nat → Nat} {sb : RS} {lw : Nat → Option Nat} {st : RS} {sp : RS} {sd : RS} {ss : RS} {sy : RS} {si : Nat → Option Nat} {lp : List Nat} {pf : Nat → RS} {S : RS} {N cells slots j b L : Nat} {f : Nat → Int32} {R : RS → (Nat → Option Nat) → RS → RS → RS → RS → RS → (Nat → Option Nat) → List Nat → (Nat → RS) → RS → Prop} (C : Cx x g cL_law RL wsL_law room_1 y ret 4) (hN : NW (xs x)) (hX : va_X b L f (xs x) (xs x).heap) (hbl : b < (xs x).heap.size) (hbA : ¬ xA x b) (hL : L ≤ 2560) (hj : j + 5 ≤ L) (hc : cells + 1 ≤ 600000) (hs : slots + 11 ≤ 7302250) (hR : ∀ sb lw st sp sd ss sy si lp pf S, R sb lw st sp sd ss sy si lp pf S → St x (cells + 1) (slots + 11) (lawW g a e sb lw st sp sd ss sy si lp pf S) [(0, .ref b), (1, .ref (a 0 50)), (2, .ref (e 50)), (3, .int (nI j))] [] 1025) (h : cL_4 N sb lw st sp sd ss sy si lp pf S (f (nI j + 1).toNatClampNeg) (f (nI j + 2).toNatClampNeg) R) : St x cells slots (lawW g a e sb lw st sp sd ss sy si lp pf S) [(0, .ref b), (1, .ref (a 0 50)), (2, .ref (e 50)), (3, .int (nI j))] [] 294 := by
  unfold cL_4 at h
  refine r_aload_n C dL_law_294 rfl ?_
  refine r_aload_n C dL_law_295 rfl ?_
  refine r_iload_n C dL_law_296 rfl ?_
  refine r_iconst (v := 1) C dL_law_297 (by decide) ?_
  refine r_iadd C dL_law_298 ?_
  refine r_sld C hX hbl hbA (vp_in_off hj (c := 1) (by decide) hL) dL_law_299 ?_
  refine r_aload_n C dL_law_300 rfl ?_
  refine r_iload_n C dL_law_301 rfl ?_
  refine r_iconst (v := 2) C dL_law_302 (by decide) ?_
  refine r_iadd C dL_law_303 ?_
  refine r_sld C hX hbl hbA (vp_in_off hj (c := 2) (by decide) hL) dL_law_304 ?_
  refine callR_I C (run_V (As := [.int (f (nI j + 1).toNatClampNeg), .int (f (nI j + 2).toNatClampNeg)]) (rest := []) (ci := 5) C hN (tX5_about _ g a sb lw st sp sd ss sy si lp pf N (f (nI j + 1).toNatClampNeg) (f (nI j + 2).toNatClampNeg) _ h) gL_law_X5_about rfl dsX5_about rfl rfl ⟨(Nat.le_of_ble_eq_true rfl), (Nat.le_of_ble_eq_true rfl)⟩ rfl (List.mem_append_left _ (List.mem_of_getElem? (i := 0) rfl)) rfl (Nat.le_of_ble_eq_true rfl) dL_law_305 ⟨by show _ ≤ 600000; omega, by show _ ≤ 7302250; omega⟩) (List.sublist_append_left _ _) (fun _ => rfl) (fun r1 _ h => ?_)
  refine r_aload_n C dL_law_308 rfl ?_
  refine r_aload_n C dL_law_309 rfl ?_
  refine r_iload_n C dL_law_310 rfl ?_
  refine r_iconst (v := 1) C dL_law_311 (by decide) ?_
  refine r_iadd C dL_law_312 ?_
  refine r_sld C hX hbl hbA (vp_in_off hj (c := 1) (by decide) hL) dL_law_313 ?_
  refine r_aload_n C dL_law_314 rfl ?_
  refine r_iload_n C dL_law_315 rfl ?_
  refine r_iconst (v := 2) C dL_law_316 (by decide) ?_
  refine r_iadd C dL_law_317 ?_
  refine r_sld C hX hbl hbA (vp_in_off hj (c := 2) (by decide) hL) dL_law_318 ?_
  refine callR_I C (run_V (As := [.int (f (nI j + 1).toNatClampNeg), .int (f (nI j + 2).toNatClampNeg)]) (rest := [.int r1]) (ci := 6) C hN (tX6_about _ g e S N (f (nI j + 1).toNatClampNeg) (f (nI j + 2).toNatClampNeg) _ h) gL_law_X6_about rfl dsX6_about rfl rfl ⟨(Nat.le_of_ble_eq_true rfl), (Nat.le_of_ble_eq_true rfl)⟩ rfl (List.mem_append_right _ (List.mem_of_getElem? (i := 0) rfl)) rfl (Nat.le_of_ble_eq_true rfl) dL_law_319 ⟨by show _ ≤ 600000; omega, by show _ ≤ 7302250; omega⟩) (List.sublist_append_right _ _) (fun _ => rfl) (fun r2 _ h => ?_)
  obtain ⟨he, h⟩ := h
  refine r_icmp_eq (tgt := 1025) C dL_law_322 (by decide) (fun _ => ?_) (fun c => absurd he c)
  exact r_widen (by omega) (by omega) (hR sb lw st sp sd ss sy si lp pf S h)
def cL_5 (N : Nat) (sb : RS) (lw : Nat → Option Nat) (st : RS) (sp : RS) (sd : RS) (ss : RS) (sy : RS) (si : Nat → Option Nat) (lp : List Nat) (pf : Nat → RS) (S : RS) (i0 : Int32) (i1 : Int32) (i2 : Int32) (i3 : Int32) (R : RS → (Nat → Option Nat) → RS → RS → RS → RS → RS → (Nat → Option Nat) → List Nat → (Nat → RS) → RS → Prop) : Prop :=
  fX5_holds N sb lw lp pf i0 i1 i2 i3 (fun r1 => fX6_holds N S i0 i1 i2 i3 (fun r2 => (r1 = r2 ∧ R sb lw st sp sd ss sy si lp pf S)))
set_option maxRecDepth 100000 in
set_option maxHeartbeats 4000000 in
theorem wL_5 {x : Nx} {g : Gx} {y : MethodName} {ret : Option FieldType} {a : Nat → Nat → Nat} {e : Nat → Nat} {sb : RS} {lw : Nat → Option Nat} {st : RS} {sp : RS} {sd : RS} {ss : RS} {sy : RS} {si : Nat → Option Nat} {lp : List Nat} {pf : Nat → RS} {S : RS} {N cells slots j b L : Nat} {f : Nat → Int32} {R : RS → (Nat → Option Nat) → RS → RS → RS → RS → RS → (Nat → Option Nat) → List Nat → (Nat → RS) → RS → Prop} (C : Cx x g cL_law RL wsL_law room_1 y ret 4) (hN : NW (xs x)) (hX : va_X b L f (xs x) (xs x).heap) (hbl : b < (xs x).heap.size) (hbA : ¬ xA x b) (hL : L ≤ 2560) (hj : j + 5 ≤ L) (hc : cells + 1 ≤ 600000) (hs : slots + 11 ≤ 7302250) (hR : ∀ sb lw st sp sd ss sy si lp pf S, R sb lw st sp sd ss sy si lp pf S → St x (cells + 1) (slots + 11) (lawW g a e sb lw st sp sd ss sy si lp pf S) [(0, .ref b), (1, .ref (a 0 50)), (2, .ref (e 50)), (3, .int (nI j))] [] 1025) (h : cL_5 N sb lw st sp sd ss sy si lp pf S (f (nI j + 1).toNatClampNeg) (f (nI j + 2).toNatClampNeg) (f (nI j + 3).toNatClampNeg) (f (nI j + 4).toNatClampNeg) R) : St x cells slots (lawW g a e sb lw st sp sd ss sy si lp pf S) [(0, .ref b), (1, .ref (a 0 50)), (2, .ref (e 50)), (3, .int (nI j))] [] 327 := by
  unfold cL_5 at h
  refine r_aload_n C dL_law_327 rfl ?_
  refine r_aload_n C dL_law_328 rfl ?_
  refine r_iload_n C dL_law_329 rfl ?_
  refine r_iconst (v := 1) C dL_law_330 (by decide) ?_
  refine r_iadd C dL_law_331 ?_
  refine r_sld C hX hbl hbA (vp_in_off hj (c := 1) (by decide) hL) dL_law_332 ?_
  refine r_aload_n C dL_law_333 rfl ?_
  refine r_iload_n C dL_law_334 rfl ?_
  refine r_iconst (v := 2) C dL_law_335 (by decide) ?_
  refine r_iadd C dL_law_336 ?_
  refine r_sld C hX hbl hbA (vp_in_off hj (c := 2) (by decide) hL) dL_law_337 ?_
  refine r_aload_n C dL_law_338 rfl ?_
  refine r_iload_n C dL_law_339 rfl ?_
  refine r_iconst (v := 3) C dL_law_340 (by decide) ?_
  refine r_iadd C dL_law_341 ?_
  refine r_sld C hX hbl hbA (vp_in_off hj (c := 3) (by decide) hL) dL_law_342 ?_
  refine r_aload_n C dL_law_343 rfl ?_
  refine r_iload_n C dL_law_344 rfl ?_
  refine r_iconst (v := 4) C dL_law_345 (by decide) ?_
  refine r_iadd C dL_law_346 ?_
  refine r_sld C hX hbl hbA (vp_in_off hj (c := 4) (by decide) hL) dL_law_347 ?_
  refine callR_I C (run_V (As := [.int (f (nI j + 1).toNatClampNeg), .int (f (nI j + 2).toNatClampNeg), .int (f (nI j + 3).toNatClampNeg), .int (f (nI j + 4).toNatClampNeg)]) (rest := []) (ci := 5) C hN (tX5_holds _ g a sb lw st sp sd ss sy si lp pf N (f (nI j + 1).toNatClampNeg) (f (nI j + 2).toNatClampNeg) (f (nI j + 3).toNatClampNeg) (f (nI j + 4).toNatClampNeg) _ h) gL_law_X5_holds rfl dsX5_holds rfl rfl ⟨(Nat.le_of_ble_eq_true rfl), (Nat.le_of_ble_eq_true rfl)⟩ rfl (List.mem_append_left _ (List.mem_of_getElem? (i := 0) rfl)) rfl (Nat.le_of_ble_eq_true rfl) dL_law_348 ⟨by show _ ≤ 600000; omega, by show _ ≤ 7302250; omega⟩) (List.sublist_append_left _ _) (fun _ => rfl) (fun r1 _ h => ?_)
  refine r_aload_n C dL_law_351 rfl ?_
  refine r_aload_n C dL_law_352 rfl ?_
  refine r_iload_n C dL_law_353 rfl ?_
  refine r_iconst (v := 1) C dL_law_354 (by decide) ?_
  refine r_iadd C dL_law_355 ?_
  refine r_sld C hX hbl hbA (vp_in_off hj (c := 1) (by decide) hL) dL_law_356 ?_
  refine r_aload_n C dL_law_357 rfl ?_
  refine r_iload_n C dL_law_358 rfl ?_
  refine r_iconst (v := 2) C dL_law_359 (by decide) ?_
  refine r_iadd C dL_law_360 ?_
  refine r_sld C hX hbl hbA (vp_in_off hj (c := 2) (by decide) hL) dL_law_361 ?_
  refine r_aload_n C dL_law_362 rfl ?_
  refine r_iload_n C dL_law_363 rfl ?_
  refine r_iconst (v := 3) C dL_law_364 (by decide) ?_
  refine r_iadd C dL_law_365 ?_
  refine r_sld C hX hbl hbA (vp_in_off hj (c := 3) (by decide) hL) dL_law_366 ?_
  refine r_aload_n C dL_law_367 rfl ?_
  refine r_iload_n C dL_law_368 rfl ?_
  refine r_iconst (v := 4) C dL_law_369 (by decide) ?_
  refine r_iadd C dL_law_370 ?_
  refine r_sld C hX hbl hbA (vp_in_off hj (c := 4) (by decide) hL) dL_law_371 ?_
  refine callR_I C (run_V (As := [.int (f (nI j + 1).toNatClampNeg), .int (f (nI j + 2).toNatClampNeg), .int (f (nI j + 3).toNatClampNeg), .int (f (nI j + 4).toNatClampNeg)]) (rest := [.int r1]) (ci := 6) C hN (tX6_holds _ g e S N (f (nI j + 1).toNatClampNeg) (f (nI j + 2).toNatClampNeg) (f (nI j + 3).toNatClampNeg) (f (nI j + 4).toNatClampNeg) _ h) gL_law_X6_holds rfl dsX6_holds rfl rfl ⟨(Nat.le_of_ble_eq_true rfl), (Nat.le_of_ble_eq_true rfl)⟩ rfl (List.mem_append_right _ (List.mem_of_getElem? (i := 0) rfl)) rfl (Nat.le_of_ble_eq_true rfl) dL_law_372 ⟨by show _ ≤ 600000; omega, by show _ ≤ 7302250; omega⟩) (List.sublist_append_right _ _) (fun _ => rfl) (fun r2 _ h => ?_)
  obtain ⟨he, h⟩ := h
  refine r_icmp_eq (tgt := 1025) C dL_law_375 (by decide) (fun _ => ?_) (fun c => absurd he c)
  exact r_widen (by omega) (by omega) (hR sb lw st sp sd ss sy si lp pf S h)
def cL_6 (N : Nat) (sb : RS) (lw : Nat → Option Nat) (st : RS) (sp : RS) (sd : RS) (ss : RS) (sy : RS) (si : Nat → Option Nat) (lp : List Nat) (pf : Nat → RS) (S : RS) (i0 : Int32) (i1 : Int32) (i2 : Int32) (R : RS → (Nat → Option Nat) → RS → RS → RS → RS → RS → (Nat → Option Nat) → List Nat → (Nat → RS) → RS → Prop) : Prop :=
  fX5_next N sb lw lp pf i0 i1 i2 (fun r1 => fX6_next N S i0 i1 i2 (fun r2 => (r1 = r2 ∧ R sb lw st sp sd ss sy si lp pf S)))
set_option maxRecDepth 100000 in
set_option maxHeartbeats 4000000 in
theorem wL_6 {x : Nx} {g : Gx} {y : MethodName} {ret : Option FieldType} {a : Nat → Nat → Nat} {e : Nat → Nat} {sb : RS} {lw : Nat → Option Nat} {st : RS} {sp : RS} {sd : RS} {ss : RS} {sy : RS} {si : Nat → Option Nat} {lp : List Nat} {pf : Nat → RS} {S : RS} {N cells slots j b L : Nat} {f : Nat → Int32} {R : RS → (Nat → Option Nat) → RS → RS → RS → RS → RS → (Nat → Option Nat) → List Nat → (Nat → RS) → RS → Prop} (C : Cx x g cL_law RL wsL_law room_1 y ret 4) (hN : NW (xs x)) (hX : va_X b L f (xs x) (xs x).heap) (hbl : b < (xs x).heap.size) (hbA : ¬ xA x b) (hL : L ≤ 2560) (hj : j + 5 ≤ L) (hc : cells + 1 ≤ 600000) (hs : slots + 11 ≤ 7302250) (hR : ∀ sb lw st sp sd ss sy si lp pf S, R sb lw st sp sd ss sy si lp pf S → St x (cells + 1) (slots + 11) (lawW g a e sb lw st sp sd ss sy si lp pf S) [(0, .ref b), (1, .ref (a 0 50)), (2, .ref (e 50)), (3, .int (nI j))] [] 1025) (h : cL_6 N sb lw st sp sd ss sy si lp pf S (f (nI j + 1).toNatClampNeg) (f (nI j + 2).toNatClampNeg) (f (nI j + 3).toNatClampNeg) R) : St x cells slots (lawW g a e sb lw st sp sd ss sy si lp pf S) [(0, .ref b), (1, .ref (a 0 50)), (2, .ref (e 50)), (3, .int (nI j))] [] 380 := by
  unfold cL_6 at h
  refine r_aload_n C dL_law_380 rfl ?_
  refine r_aload_n C dL_law_381 rfl ?_
  refine r_iload_n C dL_law_382 rfl ?_
  refine r_iconst (v := 1) C dL_law_383 (by decide) ?_
  refine r_iadd C dL_law_384 ?_
  refine r_sld C hX hbl hbA (vp_in_off hj (c := 1) (by decide) hL) dL_law_385 ?_
  refine r_aload_n C dL_law_386 rfl ?_
  refine r_iload_n C dL_law_387 rfl ?_
  refine r_iconst (v := 2) C dL_law_388 (by decide) ?_
  refine r_iadd C dL_law_389 ?_
  refine r_sld C hX hbl hbA (vp_in_off hj (c := 2) (by decide) hL) dL_law_390 ?_
  refine r_aload_n C dL_law_391 rfl ?_
  refine r_iload_n C dL_law_392 rfl ?_
  refine r_iconst (v := 3) C dL_law_393 (by decide) ?_
  refine r_iadd C dL_law_394 ?_
  refine r_sld C hX hbl hbA (vp_in_off hj (c := 3) (by decide) hL) dL_law_395 ?_
  refine callR_I C (run_V (As := [.int (f (nI j + 1).toNatClampNeg), .int (f (nI j + 2).toNatClampNeg), .int (f (nI j + 3).toNatClampNeg)]) (rest := []) (ci := 5) C hN (tX5_next _ g a sb lw st sp sd ss sy si lp pf N (f (nI j + 1).toNatClampNeg) (f (nI j + 2).toNatClampNeg) (f (nI j + 3).toNatClampNeg) _ h) gL_law_X5_next rfl dsX5_next rfl rfl ⟨(Nat.le_of_ble_eq_true rfl), (Nat.le_of_ble_eq_true rfl)⟩ rfl (List.mem_append_left _ (List.mem_of_getElem? (i := 0) rfl)) rfl (Nat.le_of_ble_eq_true rfl) dL_law_396 ⟨by show _ ≤ 600000; omega, by show _ ≤ 7302250; omega⟩) (List.sublist_append_left _ _) (fun _ => rfl) (fun r1 _ h => ?_)
  refine r_aload_n C dL_law_399 rfl ?_
  refine r_aload_n C dL_law_400 rfl ?_
  refine r_iload_n C dL_law_401 rfl ?_
  refine r_iconst (v := 1) C dL_law_402 (by decide) ?_
  refine r_iadd C dL_law_403 ?_
  refine r_sld C hX hbl hbA (vp_in_off hj (c := 1) (by decide) hL) dL_law_404 ?_
  refine r_aload_n C dL_law_405 rfl ?_
  refine r_iload_n C dL_law_406 rfl ?_
  refine r_iconst (v := 2) C dL_law_407 (by decide) ?_
  refine r_iadd C dL_law_408 ?_
  refine r_sld C hX hbl hbA (vp_in_off hj (c := 2) (by decide) hL) dL_law_409 ?_
  refine r_aload_n C dL_law_410 rfl ?_
  refine r_iload_n C dL_law_411 rfl ?_
  refine r_iconst (v := 3) C dL_law_412 (by decide) ?_
  refine r_iadd C dL_law_413 ?_
  refine r_sld C hX hbl hbA (vp_in_off hj (c := 3) (by decide) hL) dL_law_414 ?_
  refine callR_I C (run_V (As := [.int (f (nI j + 1).toNatClampNeg), .int (f (nI j + 2).toNatClampNeg), .int (f (nI j + 3).toNatClampNeg)]) (rest := [.int r1]) (ci := 6) C hN (tX6_next _ g e S N (f (nI j + 1).toNatClampNeg) (f (nI j + 2).toNatClampNeg) (f (nI j + 3).toNatClampNeg) _ h) gL_law_X6_next rfl dsX6_next rfl rfl ⟨(Nat.le_of_ble_eq_true rfl), (Nat.le_of_ble_eq_true rfl)⟩ rfl (List.mem_append_right _ (List.mem_of_getElem? (i := 0) rfl)) rfl (Nat.le_of_ble_eq_true rfl) dL_law_415 ⟨by show _ ≤ 600000; omega, by show _ ≤ 7302250; omega⟩) (List.sublist_append_right _ _) (fun _ => rfl) (fun r2 _ h => ?_)
  obtain ⟨he, h⟩ := h
  refine r_icmp_eq (tgt := 1025) C dL_law_418 (by decide) (fun _ => ?_) (fun c => absurd he c)
  exact r_widen (by omega) (by omega) (hR sb lw st sp sd ss sy si lp pf S h)
def cL_7 (N : Nat) (sb : RS) (lw : Nat → Option Nat) (st : RS) (sp : RS) (sd : RS) (ss : RS) (sy : RS) (si : Nat → Option Nat) (lp : List Nat) (pf : Nat → RS) (S : RS) (i0 : Int32) (R : RS → (Nat → Option Nat) → RS → RS → RS → RS → RS → (Nat → Option Nat) → List Nat → (Nat → RS) → RS → Prop) : Prop :=
  fX5_can N sb lw sd lp pf i0 (fun r1 sd1 => fX6_can N S i0 (fun r2 S1 => (r1 = r2 ∧ R sb lw st sp sd1 ss sy si lp pf S1)))
set_option maxRecDepth 100000 in
set_option maxHeartbeats 4000000 in
theorem wL_7 {x : Nx} {g : Gx} {y : MethodName} {ret : Option FieldType} {a : Nat → Nat → Nat} {e : Nat → Nat} {sb : RS} {lw : Nat → Option Nat} {st : RS} {sp : RS} {sd : RS} {ss : RS} {sy : RS} {si : Nat → Option Nat} {lp : List Nat} {pf : Nat → RS} {S : RS} {N cells slots j b L : Nat} {f : Nat → Int32} {R : RS → (Nat → Option Nat) → RS → RS → RS → RS → RS → (Nat → Option Nat) → List Nat → (Nat → RS) → RS → Prop} (C : Cx x g cL_law RL wsL_law room_1 y ret 4) (hN : NW (xs x)) (hX : va_X b L f (xs x) (xs x).heap) (hbl : b < (xs x).heap.size) (hbA : ¬ xA x b) (hL : L ≤ 2560) (hj : j + 5 ≤ L) (hc : cells + 1 ≤ 600000) (hs : slots + 11 ≤ 7302250) (hR : ∀ sb lw st sp sd ss sy si lp pf S, R sb lw st sp sd ss sy si lp pf S → St x (cells + 1) (slots + 11) (lawW g a e sb lw st sp sd ss sy si lp pf S) [(0, .ref b), (1, .ref (a 0 50)), (2, .ref (e 50)), (3, .int (nI j))] [] 1025) (h : cL_7 N sb lw st sp sd ss sy si lp pf S (f (nI j + 1).toNatClampNeg) R) : St x cells slots (lawW g a e sb lw st sp sd ss sy si lp pf S) [(0, .ref b), (1, .ref (a 0 50)), (2, .ref (e 50)), (3, .int (nI j))] [] 423 := by
  unfold cL_7 at h
  refine r_aload_n C dL_law_423 rfl ?_
  refine r_aload_n C dL_law_424 rfl ?_
  refine r_iload_n C dL_law_425 rfl ?_
  refine r_iconst (v := 1) C dL_law_426 (by decide) ?_
  refine r_iadd C dL_law_427 ?_
  refine r_sld C hX hbl hbA (vp_in_off hj (c := 1) (by decide) hL) dL_law_428 ?_
  refine callP_I (ws' := fun z => lawW g a e sb lw st sp z ss sy si lp pf S) C (run_V (As := [.int (f (nI j + 1).toNatClampNeg)]) (rest := []) (ci := 5) C hN (tX5_can _ g a sb lw st sp sd ss sy si lp pf N (f (nI j + 1).toNatClampNeg) _ h) gL_law_X5_can rfl dsX5_can rfl rfl ⟨(Nat.le_of_ble_eq_true rfl), (Nat.le_of_ble_eq_true rfl)⟩ rfl (List.mem_append_left _ (List.mem_of_getElem? (i := 0) rfl)) rfl (Nat.le_of_ble_eq_true rfl) dL_law_429 ⟨by show _ ≤ 600000; omega, by show _ ≤ 7302250; omega⟩) pm0 (fun _ => pm0) (fun r1 sd1 h => ?_)
  show St x _ _ (lawW g a e sb lw st sp sd1 ss sy si lp pf S) _ _ 432
  refine r_aload_n C dL_law_432 rfl ?_
  refine r_aload_n C dL_law_433 rfl ?_
  refine r_iload_n C dL_law_434 rfl ?_
  refine r_iconst (v := 1) C dL_law_435 (by decide) ?_
  refine r_iadd C dL_law_436 ?_
  refine r_sld C hX hbl hbA (vp_in_off hj (c := 1) (by decide) hL) dL_law_437 ?_
  refine callP_I (ws' := fun z => lawW g a e sb lw st sp sd1 ss sy si lp pf z) C (run_V (As := [.int (f (nI j + 1).toNatClampNeg)]) (rest := [.int r1]) (ci := 6) C hN (tX6_can _ g e S N (f (nI j + 1).toNatClampNeg) _ h) gL_law_X6_can rfl dsX6_can rfl rfl ⟨(Nat.le_of_ble_eq_true rfl), (Nat.le_of_ble_eq_true rfl)⟩ rfl (List.mem_append_right _ (List.mem_of_getElem? (i := 0) rfl)) rfl (Nat.le_of_ble_eq_true rfl) dL_law_438 ⟨by show _ ≤ 600000; omega, by show _ ≤ 7302250; omega⟩) List.perm_append_comm (fun _ => List.perm_append_comm) (fun r2 S1 h => ?_)
  show St x _ _ (lawW g a e sb lw st sp sd1 ss sy si lp pf S1) _ _ 441
  obtain ⟨he, h⟩ := h
  refine r_icmp_eq (tgt := 1025) C dL_law_441 (by decide) (fun _ => ?_) (fun c => absurd he c)
  exact r_widen (by omega) (by omega) (hR sb lw st sp sd1 ss sy si lp pf S1 h)
def cL_8 (N : Nat) (sb : RS) (lw : Nat → Option Nat) (st : RS) (sp : RS) (sd : RS) (ss : RS) (sy : RS) (si : Nat → Option Nat) (lp : List Nat) (pf : Nat → RS) (S : RS) (i0 : Int32) (R : RS → (Nat → Option Nat) → RS → RS → RS → RS → RS → (Nat → Option Nat) → List Nat → (Nat → RS) → RS → Prop) : Prop :=
  fX5_safe N sb lw sd lp pf i0 (fun r1 sd1 => fX6_safe N S i0 (fun r2 S1 => (r1 = r2 ∧ R sb lw st sp sd1 ss sy si lp pf S1)))
set_option maxRecDepth 100000 in
set_option maxHeartbeats 4000000 in
theorem wL_8 {x : Nx} {g : Gx} {y : MethodName} {ret : Option FieldType} {a : Nat → Nat → Nat} {e : Nat → Nat} {sb : RS} {lw : Nat → Option Nat} {st : RS} {sp : RS} {sd : RS} {ss : RS} {sy : RS} {si : Nat → Option Nat} {lp : List Nat} {pf : Nat → RS} {S : RS} {N cells slots j b L : Nat} {f : Nat → Int32} {R : RS → (Nat → Option Nat) → RS → RS → RS → RS → RS → (Nat → Option Nat) → List Nat → (Nat → RS) → RS → Prop} (C : Cx x g cL_law RL wsL_law room_1 y ret 4) (hN : NW (xs x)) (hX : va_X b L f (xs x) (xs x).heap) (hbl : b < (xs x).heap.size) (hbA : ¬ xA x b) (hL : L ≤ 2560) (hj : j + 5 ≤ L) (hc : cells + 1 ≤ 600000) (hs : slots + 11 ≤ 7302250) (hR : ∀ sb lw st sp sd ss sy si lp pf S, R sb lw st sp sd ss sy si lp pf S → St x (cells + 1) (slots + 11) (lawW g a e sb lw st sp sd ss sy si lp pf S) [(0, .ref b), (1, .ref (a 0 50)), (2, .ref (e 50)), (3, .int (nI j))] [] 1025) (h : cL_8 N sb lw st sp sd ss sy si lp pf S (f (nI j + 1).toNatClampNeg) R) : St x cells slots (lawW g a e sb lw st sp sd ss sy si lp pf S) [(0, .ref b), (1, .ref (a 0 50)), (2, .ref (e 50)), (3, .int (nI j))] [] 446 := by
  unfold cL_8 at h
  refine r_aload_n C dL_law_446 rfl ?_
  refine r_aload_n C dL_law_447 rfl ?_
  refine r_iload_n C dL_law_448 rfl ?_
  refine r_iconst (v := 1) C dL_law_449 (by decide) ?_
  refine r_iadd C dL_law_450 ?_
  refine r_sld C hX hbl hbA (vp_in_off hj (c := 1) (by decide) hL) dL_law_451 ?_
  refine callP_I (ws' := fun z => lawW g a e sb lw st sp z ss sy si lp pf S) C (run_V (As := [.int (f (nI j + 1).toNatClampNeg)]) (rest := []) (ci := 5) C hN (tX5_safe _ g a sb lw st sp sd ss sy si lp pf N (f (nI j + 1).toNatClampNeg) _ h) gL_law_X5_safe rfl dsX5_safe rfl rfl ⟨(Nat.le_of_ble_eq_true rfl), (Nat.le_of_ble_eq_true rfl)⟩ rfl (List.mem_append_left _ (List.mem_of_getElem? (i := 0) rfl)) rfl (Nat.le_of_ble_eq_true rfl) dL_law_452 ⟨by show _ ≤ 600000; omega, by show _ ≤ 7302250; omega⟩) pm0 (fun _ => pm0) (fun r1 sd1 h => ?_)
  show St x _ _ (lawW g a e sb lw st sp sd1 ss sy si lp pf S) _ _ 455
  refine r_aload_n C dL_law_455 rfl ?_
  refine r_aload_n C dL_law_456 rfl ?_
  refine r_iload_n C dL_law_457 rfl ?_
  refine r_iconst (v := 1) C dL_law_458 (by decide) ?_
  refine r_iadd C dL_law_459 ?_
  refine r_sld C hX hbl hbA (vp_in_off hj (c := 1) (by decide) hL) dL_law_460 ?_
  refine callP_I (ws' := fun z => lawW g a e sb lw st sp sd1 ss sy si lp pf z) C (run_V (As := [.int (f (nI j + 1).toNatClampNeg)]) (rest := [.int r1]) (ci := 6) C hN (tX6_safe _ g e S N (f (nI j + 1).toNatClampNeg) _ h) gL_law_X6_safe rfl dsX6_safe rfl rfl ⟨(Nat.le_of_ble_eq_true rfl), (Nat.le_of_ble_eq_true rfl)⟩ rfl (List.mem_append_right _ (List.mem_of_getElem? (i := 0) rfl)) rfl (Nat.le_of_ble_eq_true rfl) dL_law_461 ⟨by show _ ≤ 600000; omega, by show _ ≤ 7302250; omega⟩) List.perm_append_comm (fun _ => List.perm_append_comm) (fun r2 S1 h => ?_)
  show St x _ _ (lawW g a e sb lw st sp sd1 ss sy si lp pf S1) _ _ 464
  obtain ⟨he, h⟩ := h
  refine r_icmp_eq (tgt := 1025) C dL_law_464 (by decide) (fun _ => ?_) (fun c => absurd he c)
  exact r_widen (by omega) (by omega) (hR sb lw st sp sd1 ss sy si lp pf S1 h)
def cL_9 (N : Nat) (sb : RS) (lw : Nat → Option Nat) (st : RS) (sp : RS) (sd : RS) (ss : RS) (sy : RS) (si : Nat → Option Nat) (lp : List Nat) (pf : Nat → RS) (S : RS) (i0 : Int32) (R : RS → (Nat → Option Nat) → RS → RS → RS → RS → RS → (Nat → Option Nat) → List Nat → (Nat → RS) → RS → Prop) : Prop :=
  fX5_play N sb lw ss lp pf i0 (fun r1 sb1 ss1 => fX6_play N S i0 (fun r2 S1 => (r1 = r2 ∧ R sb1 lw st sp sd ss1 sy si lp pf S1)))
set_option maxRecDepth 100000 in
set_option maxHeartbeats 4000000 in
theorem wL_9 {x : Nx} {g : Gx} {y : MethodName} {ret : Option FieldType} {a : Nat → Nat → Nat} {e : Nat → Nat} {sb : RS} {lw : Nat → Option Nat} {st : RS} {sp : RS} {sd : RS} {ss : RS} {sy : RS} {si : Nat → Option Nat} {lp : List Nat} {pf : Nat → RS} {S : RS} {N cells slots j b L : Nat} {f : Nat → Int32} {R : RS → (Nat → Option Nat) → RS → RS → RS → RS → RS → (Nat → Option Nat) → List Nat → (Nat → RS) → RS → Prop} (C : Cx x g cL_law RL wsL_law room_1 y ret 4) (hN : NW (xs x)) (hX : va_X b L f (xs x) (xs x).heap) (hbl : b < (xs x).heap.size) (hbA : ¬ xA x b) (hL : L ≤ 2560) (hj : j + 5 ≤ L) (hc : cells + 1 ≤ 600000) (hs : slots + 11 ≤ 7302250) (hR : ∀ sb lw st sp sd ss sy si lp pf S, R sb lw st sp sd ss sy si lp pf S → St x (cells + 1) (slots + 11) (lawW g a e sb lw st sp sd ss sy si lp pf S) [(0, .ref b), (1, .ref (a 0 50)), (2, .ref (e 50)), (3, .int (nI j))] [] 1025) (h : cL_9 N sb lw st sp sd ss sy si lp pf S (f (nI j + 1).toNatClampNeg) R) : St x cells slots (lawW g a e sb lw st sp sd ss sy si lp pf S) [(0, .ref b), (1, .ref (a 0 50)), (2, .ref (e 50)), (3, .int (nI j))] [] 469 := by
  unfold cL_9 at h
  refine r_aload_n C dL_law_469 rfl ?_
  refine r_aload_n C dL_law_470 rfl ?_
  refine r_iload_n C dL_law_471 rfl ?_
  refine r_iconst (v := 1) C dL_law_472 (by decide) ?_
  refine r_iadd C dL_law_473 ?_
  refine r_sld C hX hbl hbA (vp_in_off hj (c := 1) (by decide) hL) dL_law_474 ?_
  refine callP_I (ws' := fun z => lawW g a e z.1 lw st sp sd z.2 sy si lp pf S) C (run_V (As := [.int (f (nI j + 1).toNatClampNeg)]) (rest := []) (ci := 5) C hN (tX5_play _ g a sb lw st sp sd ss sy si lp pf N (f (nI j + 1).toNatClampNeg) _ h) gL_law_X5_play rfl dsX5_play rfl rfl ⟨(Nat.le_of_ble_eq_true rfl), (Nat.le_of_ble_eq_true rfl)⟩ rfl (List.mem_append_left _ (List.mem_of_getElem? (i := 0) rfl)) rfl (Nat.le_of_ble_eq_true rfl) dL_law_475 ⟨by show _ ≤ 600000; omega, by show _ ≤ 7302250; omega⟩) pm0 (fun _ => pm0) (fun r1 u h => ?_)
  obtain ⟨sb1, ss1⟩ := u
  show St x _ _ (lawW g a e sb1 lw st sp sd ss1 sy si lp pf S) _ _ 478
  refine r_aload_n C dL_law_478 rfl ?_
  refine r_aload_n C dL_law_479 rfl ?_
  refine r_iload_n C dL_law_480 rfl ?_
  refine r_iconst (v := 1) C dL_law_481 (by decide) ?_
  refine r_iadd C dL_law_482 ?_
  refine r_sld C hX hbl hbA (vp_in_off hj (c := 1) (by decide) hL) dL_law_483 ?_
  refine callP_I (ws' := fun z => lawW g a e sb1 lw st sp sd ss1 sy si lp pf z) C (run_V (As := [.int (f (nI j + 1).toNatClampNeg)]) (rest := [.int r1]) (ci := 6) C hN (tX6_play _ g e S N (f (nI j + 1).toNatClampNeg) _ h) gL_law_X6_play rfl dsX6_play rfl rfl ⟨(Nat.le_of_ble_eq_true rfl), (Nat.le_of_ble_eq_true rfl)⟩ rfl (List.mem_append_right _ (List.mem_of_getElem? (i := 0) rfl)) rfl (Nat.le_of_ble_eq_true rfl) dL_law_484 ⟨by show _ ≤ 600000; omega, by show _ ≤ 7302250; omega⟩) List.perm_append_comm (fun _ => List.perm_append_comm) (fun r2 S1 h => ?_)
  show St x _ _ (lawW g a e sb1 lw st sp sd ss1 sy si lp pf S1) _ _ 487
  obtain ⟨he, h⟩ := h
  refine r_icmp_eq (tgt := 1025) C dL_law_487 (by decide) (fun _ => ?_) (fun c => absurd he c)
  exact r_widen (by omega) (by omega) (hR sb1 lw st sp sd ss1 sy si lp pf S1 h)
def cL_10 (N : Nat) (sb : RS) (lw : Nat → Option Nat) (st : RS) (sp : RS) (sd : RS) (ss : RS) (sy : RS) (si : Nat → Option Nat) (lp : List Nat) (pf : Nat → RS) (S : RS) (i0 : Int32) (R : RS → (Nat → Option Nat) → RS → RS → RS → RS → RS → (Nat → Option Nat) → List Nat → (Nat → RS) → RS → Prop) : Prop :=
  fX5_tick N sb ss i0 (fun r1 sb1 ss1 => fX6_tick N S i0 (fun r2 S1 => (r1 = r2 ∧ R sb1 lw st sp sd ss1 sy si lp pf S1)))
set_option maxRecDepth 100000 in
set_option maxHeartbeats 4000000 in
theorem wL_10 {x : Nx} {g : Gx} {y : MethodName} {ret : Option FieldType} {a : Nat → Nat → Nat} {e : Nat → Nat} {sb : RS} {lw : Nat → Option Nat} {st : RS} {sp : RS} {sd : RS} {ss : RS} {sy : RS} {si : Nat → Option Nat} {lp : List Nat} {pf : Nat → RS} {S : RS} {N cells slots j b L : Nat} {f : Nat → Int32} {R : RS → (Nat → Option Nat) → RS → RS → RS → RS → RS → (Nat → Option Nat) → List Nat → (Nat → RS) → RS → Prop} (C : Cx x g cL_law RL wsL_law room_1 y ret 4) (hN : NW (xs x)) (hX : va_X b L f (xs x) (xs x).heap) (hbl : b < (xs x).heap.size) (hbA : ¬ xA x b) (hL : L ≤ 2560) (hj : j + 5 ≤ L) (hc : cells + 1 ≤ 600000) (hs : slots + 11 ≤ 7302250) (hR : ∀ sb lw st sp sd ss sy si lp pf S, R sb lw st sp sd ss sy si lp pf S → St x (cells + 1) (slots + 11) (lawW g a e sb lw st sp sd ss sy si lp pf S) [(0, .ref b), (1, .ref (a 0 50)), (2, .ref (e 50)), (3, .int (nI j))] [] 1025) (h : cL_10 N sb lw st sp sd ss sy si lp pf S (f (nI j + 1).toNatClampNeg) R) : St x cells slots (lawW g a e sb lw st sp sd ss sy si lp pf S) [(0, .ref b), (1, .ref (a 0 50)), (2, .ref (e 50)), (3, .int (nI j))] [] 492 := by
  unfold cL_10 at h
  refine r_aload_n C dL_law_492 rfl ?_
  refine r_aload_n C dL_law_493 rfl ?_
  refine r_iload_n C dL_law_494 rfl ?_
  refine r_iconst (v := 1) C dL_law_495 (by decide) ?_
  refine r_iadd C dL_law_496 ?_
  refine r_sld C hX hbl hbA (vp_in_off hj (c := 1) (by decide) hL) dL_law_497 ?_
  refine callP_I (ws' := fun z => lawW g a e z.1 lw st sp sd z.2 sy si lp pf S) C (run_V (As := [.int (f (nI j + 1).toNatClampNeg)]) (rest := []) (ci := 5) C hN (tX5_tick _ g a sb lw st sp sd ss sy si lp pf N (f (nI j + 1).toNatClampNeg) _ h) gL_law_X5_tick rfl dsX5_tick rfl rfl ⟨(Nat.le_of_ble_eq_true rfl), (Nat.le_of_ble_eq_true rfl)⟩ rfl (List.mem_append_left _ (List.mem_of_getElem? (i := 0) rfl)) rfl (Nat.le_of_ble_eq_true rfl) dL_law_498 ⟨by show _ ≤ 600000; omega, by show _ ≤ 7302250; omega⟩) pm0 (fun _ => pm0) (fun r1 u h => ?_)
  obtain ⟨sb1, ss1⟩ := u
  show St x _ _ (lawW g a e sb1 lw st sp sd ss1 sy si lp pf S) _ _ 501
  refine r_aload_n C dL_law_501 rfl ?_
  refine r_aload_n C dL_law_502 rfl ?_
  refine r_iload_n C dL_law_503 rfl ?_
  refine r_iconst (v := 1) C dL_law_504 (by decide) ?_
  refine r_iadd C dL_law_505 ?_
  refine r_sld C hX hbl hbA (vp_in_off hj (c := 1) (by decide) hL) dL_law_506 ?_
  refine callP_I (ws' := fun z => lawW g a e sb1 lw st sp sd ss1 sy si lp pf z) C (run_V (As := [.int (f (nI j + 1).toNatClampNeg)]) (rest := [.int r1]) (ci := 6) C hN (tX6_tick _ g e S N (f (nI j + 1).toNatClampNeg) _ h) gL_law_X6_tick rfl dsX6_tick rfl rfl ⟨(Nat.le_of_ble_eq_true rfl), (Nat.le_of_ble_eq_true rfl)⟩ rfl (List.mem_append_right _ (List.mem_of_getElem? (i := 0) rfl)) rfl (Nat.le_of_ble_eq_true rfl) dL_law_507 ⟨by show _ ≤ 600000; omega, by show _ ≤ 7302250; omega⟩) List.perm_append_comm (fun _ => List.perm_append_comm) (fun r2 S1 h => ?_)
  show St x _ _ (lawW g a e sb1 lw st sp sd ss1 sy si lp pf S1) _ _ 510
  obtain ⟨he, h⟩ := h
  refine r_icmp_eq (tgt := 1025) C dL_law_510 (by decide) (fun _ => ?_) (fun c => absurd he c)
  exact r_widen (by omega) (by omega) (hR sb1 lw st sp sd ss1 sy si lp pf S1 h)
def cL_11 (N : Nat) (sb : RS) (lw : Nat → Option Nat) (st : RS) (sp : RS) (sd : RS) (ss : RS) (sy : RS) (si : Nat → Option Nat) (lp : List Nat) (pf : Nat → RS) (S : RS) (i0 : Int32) (R : RS → (Nat → Option Nat) → RS → RS → RS → RS → RS → (Nat → Option Nat) → List Nat → (Nat → RS) → RS → Prop) : Prop :=
  fX5_open N sb ss i0 (fun r1 ss1 => fX6_open N S i0 (fun r2 S1 => (r1 = r2 ∧ R sb lw st sp sd ss1 sy si lp pf S1)))
set_option maxRecDepth 100000 in
set_option maxHeartbeats 4000000 in
theorem wL_11 {x : Nx} {g : Gx} {y : MethodName} {ret : Option FieldType} {a : Nat → Nat → Nat} {e : Nat → Nat} {sb : RS} {lw : Nat → Option Nat} {st : RS} {sp : RS} {sd : RS} {ss : RS} {sy : RS} {si : Nat → Option Nat} {lp : List Nat} {pf : Nat → RS} {S : RS} {N cells slots j b L : Nat} {f : Nat → Int32} {R : RS → (Nat → Option Nat) → RS → RS → RS → RS → RS → (Nat → Option Nat) → List Nat → (Nat → RS) → RS → Prop} (C : Cx x g cL_law RL wsL_law room_1 y ret 4) (hN : NW (xs x)) (hX : va_X b L f (xs x) (xs x).heap) (hbl : b < (xs x).heap.size) (hbA : ¬ xA x b) (hL : L ≤ 2560) (hj : j + 5 ≤ L) (hc : cells + 1 ≤ 600000) (hs : slots + 11 ≤ 7302250) (hR : ∀ sb lw st sp sd ss sy si lp pf S, R sb lw st sp sd ss sy si lp pf S → St x (cells + 1) (slots + 11) (lawW g a e sb lw st sp sd ss sy si lp pf S) [(0, .ref b), (1, .ref (a 0 50)), (2, .ref (e 50)), (3, .int (nI j))] [] 1025) (h : cL_11 N sb lw st sp sd ss sy si lp pf S (f (nI j + 1).toNatClampNeg) R) : St x cells slots (lawW g a e sb lw st sp sd ss sy si lp pf S) [(0, .ref b), (1, .ref (a 0 50)), (2, .ref (e 50)), (3, .int (nI j))] [] 515 := by
  unfold cL_11 at h
  refine r_aload_n C dL_law_515 rfl ?_
  refine r_aload_n C dL_law_516 rfl ?_
  refine r_iload_n C dL_law_517 rfl ?_
  refine r_iconst (v := 1) C dL_law_518 (by decide) ?_
  refine r_iadd C dL_law_519 ?_
  refine r_sld C hX hbl hbA (vp_in_off hj (c := 1) (by decide) hL) dL_law_520 ?_
  refine callP_I (ws' := fun z => lawW g a e sb lw st sp sd z sy si lp pf S) C (run_V (As := [.int (f (nI j + 1).toNatClampNeg)]) (rest := []) (ci := 5) C hN (tX5_open _ g a sb lw st sp sd ss sy si lp pf N (f (nI j + 1).toNatClampNeg) _ h) gL_law_X5_open rfl dsX5_open rfl rfl ⟨(Nat.le_of_ble_eq_true rfl), (Nat.le_of_ble_eq_true rfl)⟩ rfl (List.mem_append_left _ (List.mem_of_getElem? (i := 0) rfl)) rfl (Nat.le_of_ble_eq_true rfl) dL_law_521 ⟨by show _ ≤ 600000; omega, by show _ ≤ 7302250; omega⟩) pm0 (fun _ => pm0) (fun r1 ss1 h => ?_)
  show St x _ _ (lawW g a e sb lw st sp sd ss1 sy si lp pf S) _ _ 524
  refine r_aload_n C dL_law_524 rfl ?_
  refine r_aload_n C dL_law_525 rfl ?_
  refine r_iload_n C dL_law_526 rfl ?_
  refine r_iconst (v := 1) C dL_law_527 (by decide) ?_
  refine r_iadd C dL_law_528 ?_
  refine r_sld C hX hbl hbA (vp_in_off hj (c := 1) (by decide) hL) dL_law_529 ?_
  refine callP_I (ws' := fun z => lawW g a e sb lw st sp sd ss1 sy si lp pf z) C (run_V (As := [.int (f (nI j + 1).toNatClampNeg)]) (rest := [.int r1]) (ci := 6) C hN (tX6_open _ g e S N (f (nI j + 1).toNatClampNeg) _ h) gL_law_X6_open rfl dsX6_open rfl rfl ⟨(Nat.le_of_ble_eq_true rfl), (Nat.le_of_ble_eq_true rfl)⟩ rfl (List.mem_append_right _ (List.mem_of_getElem? (i := 0) rfl)) rfl (Nat.le_of_ble_eq_true rfl) dL_law_530 ⟨by show _ ≤ 600000; omega, by show _ ≤ 7302250; omega⟩) List.perm_append_comm (fun _ => List.perm_append_comm) (fun r2 S1 h => ?_)
  show St x _ _ (lawW g a e sb lw st sp sd ss1 sy si lp pf S1) _ _ 533
  obtain ⟨he, h⟩ := h
  refine r_icmp_eq (tgt := 1025) C dL_law_533 (by decide) (fun _ => ?_) (fun c => absurd he c)
  exact r_widen (by omega) (by omega) (hR sb lw st sp sd ss1 sy si lp pf S1 h)
def cL_12 (N : Nat) (sb : RS) (lw : Nat → Option Nat) (st : RS) (sp : RS) (sd : RS) (ss : RS) (sy : RS) (si : Nat → Option Nat) (lp : List Nat) (pf : Nat → RS) (S : RS) (i0 : Int32) (R : RS → (Nat → Option Nat) → RS → RS → RS → RS → RS → (Nat → Option Nat) → List Nat → (Nat → RS) → RS → Prop) : Prop :=
  fX5_state N sb i0 (fun r1 => fX6_state N S i0 (fun r2 => (r1 = r2 ∧ R sb lw st sp sd ss sy si lp pf S)))
set_option maxRecDepth 100000 in
set_option maxHeartbeats 4000000 in
theorem wL_12 {x : Nx} {g : Gx} {y : MethodName} {ret : Option FieldType} {a : Nat → Nat → Nat} {e : Nat → Nat} {sb : RS} {lw : Nat → Option Nat} {st : RS} {sp : RS} {sd : RS} {ss : RS} {sy : RS} {si : Nat → Option Nat} {lp : List Nat} {pf : Nat → RS} {S : RS} {N cells slots j b L : Nat} {f : Nat → Int32} {R : RS → (Nat → Option Nat) → RS → RS → RS → RS → RS → (Nat → Option Nat) → List Nat → (Nat → RS) → RS → Prop} (C : Cx x g cL_law RL wsL_law room_1 y ret 4) (hN : NW (xs x)) (hX : va_X b L f (xs x) (xs x).heap) (hbl : b < (xs x).heap.size) (hbA : ¬ xA x b) (hL : L ≤ 2560) (hj : j + 5 ≤ L) (hc : cells + 1 ≤ 600000) (hs : slots + 11 ≤ 7302250) (hR : ∀ sb lw st sp sd ss sy si lp pf S, R sb lw st sp sd ss sy si lp pf S → St x (cells + 1) (slots + 11) (lawW g a e sb lw st sp sd ss sy si lp pf S) [(0, .ref b), (1, .ref (a 0 50)), (2, .ref (e 50)), (3, .int (nI j))] [] 1025) (h : cL_12 N sb lw st sp sd ss sy si lp pf S (f (nI j + 1).toNatClampNeg) R) : St x cells slots (lawW g a e sb lw st sp sd ss sy si lp pf S) [(0, .ref b), (1, .ref (a 0 50)), (2, .ref (e 50)), (3, .int (nI j))] [] 538 := by
  unfold cL_12 at h
  refine r_aload_n C dL_law_538 rfl ?_
  refine r_aload_n C dL_law_539 rfl ?_
  refine r_iload_n C dL_law_540 rfl ?_
  refine r_iconst (v := 1) C dL_law_541 (by decide) ?_
  refine r_iadd C dL_law_542 ?_
  refine r_sld C hX hbl hbA (vp_in_off hj (c := 1) (by decide) hL) dL_law_543 ?_
  refine callR_I C (run_V (As := [.int (f (nI j + 1).toNatClampNeg)]) (rest := []) (ci := 5) C hN (tX5_state _ g a sb lw st sp sd ss sy si lp pf N (f (nI j + 1).toNatClampNeg) _ h) gL_law_X5_state rfl dsX5_state rfl rfl ⟨(Nat.le_of_ble_eq_true rfl), (Nat.le_of_ble_eq_true rfl)⟩ rfl (List.mem_append_left _ (List.mem_of_getElem? (i := 0) rfl)) rfl (Nat.le_of_ble_eq_true rfl) dL_law_544 ⟨by show _ ≤ 600000; omega, by show _ ≤ 7302250; omega⟩) (List.sublist_append_left _ _) (fun _ => rfl) (fun r1 _ h => ?_)
  refine r_aload_n C dL_law_547 rfl ?_
  refine r_aload_n C dL_law_548 rfl ?_
  refine r_iload_n C dL_law_549 rfl ?_
  refine r_iconst (v := 1) C dL_law_550 (by decide) ?_
  refine r_iadd C dL_law_551 ?_
  refine r_sld C hX hbl hbA (vp_in_off hj (c := 1) (by decide) hL) dL_law_552 ?_
  refine callR_I C (run_V (As := [.int (f (nI j + 1).toNatClampNeg)]) (rest := [.int r1]) (ci := 6) C hN (tX6_state _ g e S N (f (nI j + 1).toNatClampNeg) _ h) gL_law_X6_state rfl dsX6_state rfl rfl ⟨(Nat.le_of_ble_eq_true rfl), (Nat.le_of_ble_eq_true rfl)⟩ rfl (List.mem_append_right _ (List.mem_of_getElem? (i := 0) rfl)) rfl (Nat.le_of_ble_eq_true rfl) dL_law_553 ⟨by show _ ≤ 600000; omega, by show _ ≤ 7302250; omega⟩) (List.sublist_append_right _ _) (fun _ => rfl) (fun r2 _ h => ?_)
  obtain ⟨he, h⟩ := h
  refine r_icmp_eq (tgt := 1025) C dL_law_556 (by decide) (fun _ => ?_) (fun c => absurd he c)
  exact r_widen (by omega) (by omega) (hR sb lw st sp sd ss sy si lp pf S h)
def cL_13 (N : Nat) (sb : RS) (lw : Nat → Option Nat) (st : RS) (sp : RS) (sd : RS) (ss : RS) (sy : RS) (si : Nat → Option Nat) (lp : List Nat) (pf : Nat → RS) (S : RS) (i0 : Int32) (R : RS → (Nat → Option Nat) → RS → RS → RS → RS → RS → (Nat → Option Nat) → List Nat → (Nat → RS) → RS → Prop) : Prop :=
  fX5_loses N sb lw sd lp pf i0 (fun r1 sd1 => fX6_loses N S i0 (fun r2 S1 => (r1 = r2 ∧ R sb lw st sp sd1 ss sy si lp pf S1)))
set_option maxRecDepth 100000 in
set_option maxHeartbeats 4000000 in
theorem wL_13 {x : Nx} {g : Gx} {y : MethodName} {ret : Option FieldType} {a : Nat → Nat → Nat} {e : Nat → Nat} {sb : RS} {lw : Nat → Option Nat} {st : RS} {sp : RS} {sd : RS} {ss : RS} {sy : RS} {si : Nat → Option Nat} {lp : List Nat} {pf : Nat → RS} {S : RS} {N cells slots j b L : Nat} {f : Nat → Int32} {R : RS → (Nat → Option Nat) → RS → RS → RS → RS → RS → (Nat → Option Nat) → List Nat → (Nat → RS) → RS → Prop} (C : Cx x g cL_law RL wsL_law room_1 y ret 4) (hN : NW (xs x)) (hX : va_X b L f (xs x) (xs x).heap) (hbl : b < (xs x).heap.size) (hbA : ¬ xA x b) (hL : L ≤ 2560) (hj : j + 5 ≤ L) (hc : cells + 1 ≤ 600000) (hs : slots + 11 ≤ 7302250) (hR : ∀ sb lw st sp sd ss sy si lp pf S, R sb lw st sp sd ss sy si lp pf S → St x (cells + 1) (slots + 11) (lawW g a e sb lw st sp sd ss sy si lp pf S) [(0, .ref b), (1, .ref (a 0 50)), (2, .ref (e 50)), (3, .int (nI j))] [] 1025) (h : cL_13 N sb lw st sp sd ss sy si lp pf S (f (nI j + 1).toNatClampNeg) R) : St x cells slots (lawW g a e sb lw st sp sd ss sy si lp pf S) [(0, .ref b), (1, .ref (a 0 50)), (2, .ref (e 50)), (3, .int (nI j))] [] 561 := by
  unfold cL_13 at h
  refine r_aload_n C dL_law_561 rfl ?_
  refine r_aload_n C dL_law_562 rfl ?_
  refine r_iload_n C dL_law_563 rfl ?_
  refine r_iconst (v := 1) C dL_law_564 (by decide) ?_
  refine r_iadd C dL_law_565 ?_
  refine r_sld C hX hbl hbA (vp_in_off hj (c := 1) (by decide) hL) dL_law_566 ?_
  refine callP_I (ws' := fun z => lawW g a e sb lw st sp z ss sy si lp pf S) C (run_V (As := [.int (f (nI j + 1).toNatClampNeg)]) (rest := []) (ci := 5) C hN (tX5_loses _ g a sb lw st sp sd ss sy si lp pf N (f (nI j + 1).toNatClampNeg) _ h) gL_law_X5_loses rfl dsX5_loses rfl rfl ⟨(Nat.le_of_ble_eq_true rfl), (Nat.le_of_ble_eq_true rfl)⟩ rfl (List.mem_append_left _ (List.mem_of_getElem? (i := 0) rfl)) rfl (Nat.le_of_ble_eq_true rfl) dL_law_567 ⟨by show _ ≤ 600000; omega, by show _ ≤ 7302250; omega⟩) pm0 (fun _ => pm0) (fun r1 sd1 h => ?_)
  show St x _ _ (lawW g a e sb lw st sp sd1 ss sy si lp pf S) _ _ 570
  refine r_aload_n C dL_law_570 rfl ?_
  refine r_aload_n C dL_law_571 rfl ?_
  refine r_iload_n C dL_law_572 rfl ?_
  refine r_iconst (v := 1) C dL_law_573 (by decide) ?_
  refine r_iadd C dL_law_574 ?_
  refine r_sld C hX hbl hbA (vp_in_off hj (c := 1) (by decide) hL) dL_law_575 ?_
  refine callP_I (ws' := fun z => lawW g a e sb lw st sp sd1 ss sy si lp pf z) C (run_V (As := [.int (f (nI j + 1).toNatClampNeg)]) (rest := [.int r1]) (ci := 6) C hN (tX6_loses _ g e S N (f (nI j + 1).toNatClampNeg) _ h) gL_law_X6_loses rfl dsX6_loses rfl rfl ⟨(Nat.le_of_ble_eq_true rfl), (Nat.le_of_ble_eq_true rfl)⟩ rfl (List.mem_append_right _ (List.mem_of_getElem? (i := 0) rfl)) rfl (Nat.le_of_ble_eq_true rfl) dL_law_576 ⟨by show _ ≤ 600000; omega, by show _ ≤ 7302250; omega⟩) List.perm_append_comm (fun _ => List.perm_append_comm) (fun r2 S1 h => ?_)
  show St x _ _ (lawW g a e sb lw st sp sd1 ss sy si lp pf S1) _ _ 579
  obtain ⟨he, h⟩ := h
  refine r_icmp_eq (tgt := 1025) C dL_law_579 (by decide) (fun _ => ?_) (fun c => absurd he c)
  exact r_widen (by omega) (by omega) (hR sb lw st sp sd1 ss sy si lp pf S1 h)
def cL_14 (N : Nat) (sb : RS) (lw : Nat → Option Nat) (st : RS) (sp : RS) (sd : RS) (ss : RS) (sy : RS) (si : Nat → Option Nat) (lp : List Nat) (pf : Nat → RS) (S : RS) (i0 : Int32) (R : RS → (Nat → Option Nat) → RS → RS → RS → RS → RS → (Nat → Option Nat) → List Nat → (Nat → RS) → RS → Prop) : Prop :=
  fX5_world N sb lw sd lp pf i0 (fun r1 sd1 => fX6_world N S i0 (fun r2 S1 => (r1 = r2 ∧ R sb lw st sp sd1 ss sy si lp pf S1)))
set_option maxRecDepth 100000 in
set_option maxHeartbeats 4000000 in
theorem wL_14 {x : Nx} {g : Gx} {y : MethodName} {ret : Option FieldType} {a : Nat → Nat → Nat} {e : Nat → Nat} {sb : RS} {lw : Nat → Option Nat} {st : RS} {sp : RS} {sd : RS} {ss : RS} {sy : RS} {si : Nat → Option Nat} {lp : List Nat} {pf : Nat → RS} {S : RS} {N cells slots j b L : Nat} {f : Nat → Int32} {R : RS → (Nat → Option Nat) → RS → RS → RS → RS → RS → (Nat → Option Nat) → List Nat → (Nat → RS) → RS → Prop} (C : Cx x g cL_law RL wsL_law room_1 y ret 4) (hN : NW (xs x)) (hX : va_X b L f (xs x) (xs x).heap) (hbl : b < (xs x).heap.size) (hbA : ¬ xA x b) (hL : L ≤ 2560) (hj : j + 5 ≤ L) (hc : cells + 1 ≤ 600000) (hs : slots + 11 ≤ 7302250) (hR : ∀ sb lw st sp sd ss sy si lp pf S, R sb lw st sp sd ss sy si lp pf S → St x (cells + 1) (slots + 11) (lawW g a e sb lw st sp sd ss sy si lp pf S) [(0, .ref b), (1, .ref (a 0 50)), (2, .ref (e 50)), (3, .int (nI j))] [] 1025) (h : cL_14 N sb lw st sp sd ss sy si lp pf S (f (nI j + 1).toNatClampNeg) R) : St x cells slots (lawW g a e sb lw st sp sd ss sy si lp pf S) [(0, .ref b), (1, .ref (a 0 50)), (2, .ref (e 50)), (3, .int (nI j))] [] 584 := by
  unfold cL_14 at h
  refine r_aload_n C dL_law_584 rfl ?_
  refine r_aload_n C dL_law_585 rfl ?_
  refine r_iload_n C dL_law_586 rfl ?_
  refine r_iconst (v := 1) C dL_law_587 (by decide) ?_
  refine r_iadd C dL_law_588 ?_
  refine r_sld C hX hbl hbA (vp_in_off hj (c := 1) (by decide) hL) dL_law_589 ?_
  refine callP_I (ws' := fun z => lawW g a e sb lw st sp z ss sy si lp pf S) C (run_V (As := [.int (f (nI j + 1).toNatClampNeg)]) (rest := []) (ci := 5) C hN (tX5_world _ g a sb lw st sp sd ss sy si lp pf N (f (nI j + 1).toNatClampNeg) _ h) gL_law_X5_world rfl dsX5_world rfl rfl ⟨(Nat.le_of_ble_eq_true rfl), (Nat.le_of_ble_eq_true rfl)⟩ rfl (List.mem_append_left _ (List.mem_of_getElem? (i := 0) rfl)) rfl (Nat.le_of_ble_eq_true rfl) dL_law_590 ⟨by show _ ≤ 600000; omega, by show _ ≤ 7302250; omega⟩) pm0 (fun _ => pm0) (fun r1 sd1 h => ?_)
  show St x _ _ (lawW g a e sb lw st sp sd1 ss sy si lp pf S) _ _ 593
  refine r_aload_n C dL_law_593 rfl ?_
  refine r_aload_n C dL_law_594 rfl ?_
  refine r_iload_n C dL_law_595 rfl ?_
  refine r_iconst (v := 1) C dL_law_596 (by decide) ?_
  refine r_iadd C dL_law_597 ?_
  refine r_sld C hX hbl hbA (vp_in_off hj (c := 1) (by decide) hL) dL_law_598 ?_
  refine callP_I (ws' := fun z => lawW g a e sb lw st sp sd1 ss sy si lp pf z) C (run_V (As := [.int (f (nI j + 1).toNatClampNeg)]) (rest := [.int r1]) (ci := 6) C hN (tX6_world _ g e S N (f (nI j + 1).toNatClampNeg) _ h) gL_law_X6_world rfl dsX6_world rfl rfl ⟨(Nat.le_of_ble_eq_true rfl), (Nat.le_of_ble_eq_true rfl)⟩ rfl (List.mem_append_right _ (List.mem_of_getElem? (i := 0) rfl)) rfl (Nat.le_of_ble_eq_true rfl) dL_law_599 ⟨by show _ ≤ 600000; omega, by show _ ≤ 7302250; omega⟩) List.perm_append_comm (fun _ => List.perm_append_comm) (fun r2 S1 h => ?_)
  show St x _ _ (lawW g a e sb lw st sp sd1 ss sy si lp pf S1) _ _ 602
  obtain ⟨he, h⟩ := h
  refine r_icmp_eq (tgt := 1025) C dL_law_602 (by decide) (fun _ => ?_) (fun c => absurd he c)
  exact r_widen (by omega) (by omega) (hR sb lw st sp sd1 ss sy si lp pf S1 h)
def cL_15 (N : Nat) (sb : RS) (lw : Nat → Option Nat) (st : RS) (sp : RS) (sd : RS) (ss : RS) (sy : RS) (si : Nat → Option Nat) (lp : List Nat) (pf : Nat → RS) (S : RS) (i0 : Int32) (R : RS → (Nat → Option Nat) → RS → RS → RS → RS → RS → (Nat → Option Nat) → List Nat → (Nat → RS) → RS → Prop) : Prop :=
  fX5_quarrel N sb lw sd lp pf i0 (fun r1 sd1 => fX6_quarrel N S i0 (fun r2 S1 => (r1 = r2 ∧ R sb lw st sp sd1 ss sy si lp pf S1)))
set_option maxRecDepth 100000 in
set_option maxHeartbeats 4000000 in
theorem wL_15 {x : Nx} {g : Gx} {y : MethodName} {ret : Option FieldType} {a : Nat → Nat → Nat} {e : Nat → Nat} {sb : RS} {lw : Nat → Option Nat} {st : RS} {sp : RS} {sd : RS} {ss : RS} {sy : RS} {si : Nat → Option Nat} {lp : List Nat} {pf : Nat → RS} {S : RS} {N cells slots j b L : Nat} {f : Nat → Int32} {R : RS → (Nat → Option Nat) → RS → RS → RS → RS → RS → (Nat → Option Nat) → List Nat → (Nat → RS) → RS → Prop} (C : Cx x g cL_law RL wsL_law room_1 y ret 4) (hN : NW (xs x)) (hX : va_X b L f (xs x) (xs x).heap) (hbl : b < (xs x).heap.size) (hbA : ¬ xA x b) (hL : L ≤ 2560) (hj : j + 5 ≤ L) (hc : cells + 1 ≤ 600000) (hs : slots + 11 ≤ 7302250) (hR : ∀ sb lw st sp sd ss sy si lp pf S, R sb lw st sp sd ss sy si lp pf S → St x (cells + 1) (slots + 11) (lawW g a e sb lw st sp sd ss sy si lp pf S) [(0, .ref b), (1, .ref (a 0 50)), (2, .ref (e 50)), (3, .int (nI j))] [] 1025) (h : cL_15 N sb lw st sp sd ss sy si lp pf S (f (nI j + 1).toNatClampNeg) R) : St x cells slots (lawW g a e sb lw st sp sd ss sy si lp pf S) [(0, .ref b), (1, .ref (a 0 50)), (2, .ref (e 50)), (3, .int (nI j))] [] 607 := by
  unfold cL_15 at h
  refine r_aload_n C dL_law_607 rfl ?_
  refine r_aload_n C dL_law_608 rfl ?_
  refine r_iload_n C dL_law_609 rfl ?_
  refine r_iconst (v := 1) C dL_law_610 (by decide) ?_
  refine r_iadd C dL_law_611 ?_
  refine r_sld C hX hbl hbA (vp_in_off hj (c := 1) (by decide) hL) dL_law_612 ?_
  refine callP_I (ws' := fun z => lawW g a e sb lw st sp z ss sy si lp pf S) C (run_V (As := [.int (f (nI j + 1).toNatClampNeg)]) (rest := []) (ci := 5) C hN (tX5_quarrel _ g a sb lw st sp sd ss sy si lp pf N (f (nI j + 1).toNatClampNeg) _ h) gL_law_X5_quarrel rfl dsX5_quarrel rfl rfl ⟨(Nat.le_of_ble_eq_true rfl), (Nat.le_of_ble_eq_true rfl)⟩ rfl (List.mem_append_left _ (List.mem_of_getElem? (i := 0) rfl)) rfl (Nat.le_of_ble_eq_true rfl) dL_law_613 ⟨by show _ ≤ 600000; omega, by show _ ≤ 7302250; omega⟩) pm0 (fun _ => pm0) (fun r1 sd1 h => ?_)
  show St x _ _ (lawW g a e sb lw st sp sd1 ss sy si lp pf S) _ _ 616
  refine r_aload_n C dL_law_616 rfl ?_
  refine r_aload_n C dL_law_617 rfl ?_
  refine r_iload_n C dL_law_618 rfl ?_
  refine r_iconst (v := 1) C dL_law_619 (by decide) ?_
  refine r_iadd C dL_law_620 ?_
  refine r_sld C hX hbl hbA (vp_in_off hj (c := 1) (by decide) hL) dL_law_621 ?_
  refine callP_I (ws' := fun z => lawW g a e sb lw st sp sd1 ss sy si lp pf z) C (run_V (As := [.int (f (nI j + 1).toNatClampNeg)]) (rest := [.int r1]) (ci := 6) C hN (tX6_quarrel _ g e S N (f (nI j + 1).toNatClampNeg) _ h) gL_law_X6_quarrel rfl dsX6_quarrel rfl rfl ⟨(Nat.le_of_ble_eq_true rfl), (Nat.le_of_ble_eq_true rfl)⟩ rfl (List.mem_append_right _ (List.mem_of_getElem? (i := 0) rfl)) rfl (Nat.le_of_ble_eq_true rfl) dL_law_622 ⟨by show _ ≤ 600000; omega, by show _ ≤ 7302250; omega⟩) List.perm_append_comm (fun _ => List.perm_append_comm) (fun r2 S1 h => ?_)
  show St x _ _ (lawW g a e sb lw st sp sd1 ss sy si lp pf S1) _ _ 625
  obtain ⟨he, h⟩ := h
  refine r_icmp_eq (tgt := 1025) C dL_law_625 (by decide) (fun _ => ?_) (fun c => absurd he c)
  exact r_widen (by omega) (by omega) (hR sb lw st sp sd1 ss sy si lp pf S1 h)
def cL_16 (N : Nat) (sb : RS) (lw : Nat → Option Nat) (st : RS) (sp : RS) (sd : RS) (ss : RS) (sy : RS) (si : Nat → Option Nat) (lp : List Nat) (pf : Nat → RS) (S : RS) (i0 : Int32) (i1 : Int32) (R : RS → (Nat → Option Nat) → RS → RS → RS → RS → RS → (Nat → Option Nat) → List Nat → (Nat → RS) → RS → Prop) : Prop :=
  fX5_follows N sb lw sd lp pf i0 i1 (fun r1 sd1 => fX6_follows N S i0 i1 (fun r2 S1 => (r1 = r2 ∧ R sb lw st sp sd1 ss sy si lp pf S1)))
set_option maxRecDepth 100000 in
set_option maxHeartbeats 4000000 in
theorem wL_16 {x : Nx} {g : Gx} {y : MethodName} {ret : Option FieldType} {a : Nat → Nat → Nat} {e : Nat → Nat} {sb : RS} {lw : Nat → Option Nat} {st : RS} {sp : RS} {sd : RS} {ss : RS} {sy : RS} {si : Nat → Option Nat} {lp : List Nat} {pf : Nat → RS} {S : RS} {N cells slots j b L : Nat} {f : Nat → Int32} {R : RS → (Nat → Option Nat) → RS → RS → RS → RS → RS → (Nat → Option Nat) → List Nat → (Nat → RS) → RS → Prop} (C : Cx x g cL_law RL wsL_law room_1 y ret 4) (hN : NW (xs x)) (hX : va_X b L f (xs x) (xs x).heap) (hbl : b < (xs x).heap.size) (hbA : ¬ xA x b) (hL : L ≤ 2560) (hj : j + 5 ≤ L) (hc : cells + 1 ≤ 600000) (hs : slots + 11 ≤ 7302250) (hR : ∀ sb lw st sp sd ss sy si lp pf S, R sb lw st sp sd ss sy si lp pf S → St x (cells + 1) (slots + 11) (lawW g a e sb lw st sp sd ss sy si lp pf S) [(0, .ref b), (1, .ref (a 0 50)), (2, .ref (e 50)), (3, .int (nI j))] [] 1025) (h : cL_16 N sb lw st sp sd ss sy si lp pf S (f (nI j + 1).toNatClampNeg) (f (nI j + 2).toNatClampNeg) R) : St x cells slots (lawW g a e sb lw st sp sd ss sy si lp pf S) [(0, .ref b), (1, .ref (a 0 50)), (2, .ref (e 50)), (3, .int (nI j))] [] 630 := by
  unfold cL_16 at h
  refine r_aload_n C dL_law_630 rfl ?_
  refine r_aload_n C dL_law_631 rfl ?_
  refine r_iload_n C dL_law_632 rfl ?_
  refine r_iconst (v := 1) C dL_law_633 (by decide) ?_
  refine r_iadd C dL_law_634 ?_
  refine r_sld C hX hbl hbA (vp_in_off hj (c := 1) (by decide) hL) dL_law_635 ?_
  refine r_aload_n C dL_law_636 rfl ?_
  refine r_iload_n C dL_law_637 rfl ?_
  refine r_iconst (v := 2) C dL_law_638 (by decide) ?_
  refine r_iadd C dL_law_639 ?_
  refine r_sld C hX hbl hbA (vp_in_off hj (c := 2) (by decide) hL) dL_law_640 ?_
  refine callP_I (ws' := fun z => lawW g a e sb lw st sp z ss sy si lp pf S) C (run_V (As := [.int (f (nI j + 1).toNatClampNeg), .int (f (nI j + 2).toNatClampNeg)]) (rest := []) (ci := 5) C hN (tX5_follows _ g a sb lw st sp sd ss sy si lp pf N (f (nI j + 1).toNatClampNeg) (f (nI j + 2).toNatClampNeg) _ h) gL_law_X5_follows rfl dsX5_follows rfl rfl ⟨(Nat.le_of_ble_eq_true rfl), (Nat.le_of_ble_eq_true rfl)⟩ rfl (List.mem_append_left _ (List.mem_of_getElem? (i := 0) rfl)) rfl (Nat.le_of_ble_eq_true rfl) dL_law_641 ⟨by show _ ≤ 600000; omega, by show _ ≤ 7302250; omega⟩) pm0 (fun _ => pm0) (fun r1 sd1 h => ?_)
  show St x _ _ (lawW g a e sb lw st sp sd1 ss sy si lp pf S) _ _ 644
  refine r_aload_n C dL_law_644 rfl ?_
  refine r_aload_n C dL_law_645 rfl ?_
  refine r_iload_n C dL_law_646 rfl ?_
  refine r_iconst (v := 1) C dL_law_647 (by decide) ?_
  refine r_iadd C dL_law_648 ?_
  refine r_sld C hX hbl hbA (vp_in_off hj (c := 1) (by decide) hL) dL_law_649 ?_
  refine r_aload_n C dL_law_650 rfl ?_
  refine r_iload_n C dL_law_651 rfl ?_
  refine r_iconst (v := 2) C dL_law_652 (by decide) ?_
  refine r_iadd C dL_law_653 ?_
  refine r_sld C hX hbl hbA (vp_in_off hj (c := 2) (by decide) hL) dL_law_654 ?_
  refine callP_I (ws' := fun z => lawW g a e sb lw st sp sd1 ss sy si lp pf z) C (run_V (As := [.int (f (nI j + 1).toNatClampNeg), .int (f (nI j + 2).toNatClampNeg)]) (rest := [.int r1]) (ci := 6) C hN (tX6_follows _ g e S N (f (nI j + 1).toNatClampNeg) (f (nI j + 2).toNatClampNeg) _ h) gL_law_X6_follows rfl dsX6_follows rfl rfl ⟨(Nat.le_of_ble_eq_true rfl), (Nat.le_of_ble_eq_true rfl)⟩ rfl (List.mem_append_right _ (List.mem_of_getElem? (i := 0) rfl)) rfl (Nat.le_of_ble_eq_true rfl) dL_law_655 ⟨by show _ ≤ 600000; omega, by show _ ≤ 7302250; omega⟩) List.perm_append_comm (fun _ => List.perm_append_comm) (fun r2 S1 h => ?_)
  show St x _ _ (lawW g a e sb lw st sp sd1 ss sy si lp pf S1) _ _ 658
  obtain ⟨he, h⟩ := h
  refine r_icmp_eq (tgt := 1025) C dL_law_658 (by decide) (fun _ => ?_) (fun c => absurd he c)
  exact r_widen (by omega) (by omega) (hR sb lw st sp sd1 ss sy si lp pf S1 h)
def cL_17 (N : Nat) (sb : RS) (lw : Nat → Option Nat) (st : RS) (sp : RS) (sd : RS) (ss : RS) (sy : RS) (si : Nat → Option Nat) (lp : List Nat) (pf : Nat → RS) (S : RS) (i0 : Int32) (R : RS → (Nat → Option Nat) → RS → RS → RS → RS → RS → (Nat → Option Nat) → List Nat → (Nat → RS) → RS → Prop) : Prop :=
  fX5_peace N sb lw sd sy si lp pf i0 (fun r1 sb1 sd1 sy1 si1 => fX6_peace N S i0 (fun r2 S1 => (r1 = r2 ∧ R sb1 lw st sp sd1 ss sy1 si1 lp pf S1)))
set_option maxRecDepth 100000 in
set_option maxHeartbeats 4000000 in
theorem wL_17 {x : Nx} {g : Gx} {y : MethodName} {ret : Option FieldType} {a : Nat → Nat → Nat} {e : Nat → Nat} {sb : RS} {lw : Nat → Option Nat} {st : RS} {sp : RS} {sd : RS} {ss : RS} {sy : RS} {si : Nat → Option Nat} {lp : List Nat} {pf : Nat → RS} {S : RS} {N cells slots j b L : Nat} {f : Nat → Int32} {R : RS → (Nat → Option Nat) → RS → RS → RS → RS → RS → (Nat → Option Nat) → List Nat → (Nat → RS) → RS → Prop} (C : Cx x g cL_law RL wsL_law room_1 y ret 4) (hN : NW (xs x)) (hX : va_X b L f (xs x) (xs x).heap) (hbl : b < (xs x).heap.size) (hbA : ¬ xA x b) (hL : L ≤ 2560) (hj : j + 5 ≤ L) (hc : cells + 1 ≤ 600000) (hs : slots + 11 ≤ 7302250) (hR : ∀ sb lw st sp sd ss sy si lp pf S, R sb lw st sp sd ss sy si lp pf S → St x (cells + 1) (slots + 11) (lawW g a e sb lw st sp sd ss sy si lp pf S) [(0, .ref b), (1, .ref (a 0 50)), (2, .ref (e 50)), (3, .int (nI j))] [] 1025) (h : cL_17 N sb lw st sp sd ss sy si lp pf S (f (nI j + 1).toNatClampNeg) R) : St x cells slots (lawW g a e sb lw st sp sd ss sy si lp pf S) [(0, .ref b), (1, .ref (a 0 50)), (2, .ref (e 50)), (3, .int (nI j))] [] 663 := by
  unfold cL_17 at h
  refine r_aload_n C dL_law_663 rfl ?_
  refine r_aload_n C dL_law_664 rfl ?_
  refine r_iload_n C dL_law_665 rfl ?_
  refine r_iconst (v := 1) C dL_law_666 (by decide) ?_
  refine r_iadd C dL_law_667 ?_
  refine r_sld C hX hbl hbA (vp_in_off hj (c := 1) (by decide) hL) dL_law_668 ?_
  refine callP_I (ws' := fun z => lawW g a e z.1 lw st sp z.2.1 ss z.2.2.1 z.2.2.2 lp pf S) C (run_V (As := [.int (f (nI j + 1).toNatClampNeg)]) (rest := []) (ci := 5) C hN (tX5_peace _ g a sb lw st sp sd ss sy si lp pf N (f (nI j + 1).toNatClampNeg) _ h) gL_law_X5_peace rfl dsX5_peace rfl rfl ⟨(Nat.le_of_ble_eq_true rfl), (Nat.le_of_ble_eq_true rfl)⟩ rfl (List.mem_append_left _ (List.mem_of_getElem? (i := 0) rfl)) rfl (Nat.le_of_ble_eq_true rfl) dL_law_669 ⟨by show _ ≤ 600000; omega, by show _ ≤ 7302250; omega⟩) pm0 (fun _ => pm0) (fun r1 u h => ?_)
  obtain ⟨sb1, sd1, sy1, si1⟩ := u
  show St x _ _ (lawW g a e sb1 lw st sp sd1 ss sy1 si1 lp pf S) _ _ 672
  refine r_aload_n C dL_law_672 rfl ?_
  refine r_aload_n C dL_law_673 rfl ?_
  refine r_iload_n C dL_law_674 rfl ?_
  refine r_iconst (v := 1) C dL_law_675 (by decide) ?_
  refine r_iadd C dL_law_676 ?_
  refine r_sld C hX hbl hbA (vp_in_off hj (c := 1) (by decide) hL) dL_law_677 ?_
  refine callP_I (ws' := fun z => lawW g a e sb1 lw st sp sd1 ss sy1 si1 lp pf z) C (run_V (As := [.int (f (nI j + 1).toNatClampNeg)]) (rest := [.int r1]) (ci := 6) C hN (tX6_peace _ g e S N (f (nI j + 1).toNatClampNeg) _ h) gL_law_X6_peace rfl dsX6_peace rfl rfl ⟨(Nat.le_of_ble_eq_true rfl), (Nat.le_of_ble_eq_true rfl)⟩ rfl (List.mem_append_right _ (List.mem_of_getElem? (i := 0) rfl)) rfl (Nat.le_of_ble_eq_true rfl) dL_law_678 ⟨by show _ ≤ 600000; omega, by show _ ≤ 7302250; omega⟩) List.perm_append_comm (fun _ => List.perm_append_comm) (fun r2 S1 h => ?_)
  show St x _ _ (lawW g a e sb1 lw st sp sd1 ss sy1 si1 lp pf S1) _ _ 681
  obtain ⟨he, h⟩ := h
  refine r_icmp_eq (tgt := 1025) C dL_law_681 (by decide) (fun _ => ?_) (fun c => absurd he c)
  exact r_widen (by omega) (by omega) (hR sb1 lw st sp sd1 ss sy1 si1 lp pf S1 h)
def cL_18 (N : Nat) (sb : RS) (lw : Nat → Option Nat) (st : RS) (sp : RS) (sd : RS) (ss : RS) (sy : RS) (si : Nat → Option Nat) (lp : List Nat) (pf : Nat → RS) (S : RS) (i0 : Int32) (R : RS → (Nat → Option Nat) → RS → RS → RS → RS → RS → (Nat → Option Nat) → List Nat → (Nat → RS) → RS → Prop) : Prop :=
  fX5_made N sb sy i0 (fun r1 => fX6_made N S i0 (fun r2 => (r1 = r2 ∧ R sb lw st sp sd ss sy si lp pf S)))
set_option maxRecDepth 100000 in
set_option maxHeartbeats 4000000 in
theorem wL_18 {x : Nx} {g : Gx} {y : MethodName} {ret : Option FieldType} {a : Nat → Nat → Nat} {e : Nat → Nat} {sb : RS} {lw : Nat → Option Nat} {st : RS} {sp : RS} {sd : RS} {ss : RS} {sy : RS} {si : Nat → Option Nat} {lp : List Nat} {pf : Nat → RS} {S : RS} {N cells slots j b L : Nat} {f : Nat → Int32} {R : RS → (Nat → Option Nat) → RS → RS → RS → RS → RS → (Nat → Option Nat) → List Nat → (Nat → RS) → RS → Prop} (C : Cx x g cL_law RL wsL_law room_1 y ret 4) (hN : NW (xs x)) (hX : va_X b L f (xs x) (xs x).heap) (hbl : b < (xs x).heap.size) (hbA : ¬ xA x b) (hL : L ≤ 2560) (hj : j + 5 ≤ L) (hc : cells + 1 ≤ 600000) (hs : slots + 11 ≤ 7302250) (hR : ∀ sb lw st sp sd ss sy si lp pf S, R sb lw st sp sd ss sy si lp pf S → St x (cells + 1) (slots + 11) (lawW g a e sb lw st sp sd ss sy si lp pf S) [(0, .ref b), (1, .ref (a 0 50)), (2, .ref (e 50)), (3, .int (nI j))] [] 1025) (h : cL_18 N sb lw st sp sd ss sy si lp pf S (f (nI j + 1).toNatClampNeg) R) : St x cells slots (lawW g a e sb lw st sp sd ss sy si lp pf S) [(0, .ref b), (1, .ref (a 0 50)), (2, .ref (e 50)), (3, .int (nI j))] [] 686 := by
  unfold cL_18 at h
  refine r_aload_n C dL_law_686 rfl ?_
  refine r_aload_n C dL_law_687 rfl ?_
  refine r_iload_n C dL_law_688 rfl ?_
  refine r_iconst (v := 1) C dL_law_689 (by decide) ?_
  refine r_iadd C dL_law_690 ?_
  refine r_sld C hX hbl hbA (vp_in_off hj (c := 1) (by decide) hL) dL_law_691 ?_
  refine callR_I C (run_V (As := [.int (f (nI j + 1).toNatClampNeg)]) (rest := []) (ci := 5) C hN (tX5_made _ g a sb lw st sp sd ss sy si lp pf N (f (nI j + 1).toNatClampNeg) _ h) gL_law_X5_made rfl dsX5_made rfl rfl ⟨(Nat.le_of_ble_eq_true rfl), (Nat.le_of_ble_eq_true rfl)⟩ rfl (List.mem_append_left _ (List.mem_of_getElem? (i := 0) rfl)) rfl (Nat.le_of_ble_eq_true rfl) dL_law_692 ⟨by show _ ≤ 600000; omega, by show _ ≤ 7302250; omega⟩) (List.sublist_append_left _ _) (fun _ => rfl) (fun r1 _ h => ?_)
  refine r_aload_n C dL_law_695 rfl ?_
  refine r_aload_n C dL_law_696 rfl ?_
  refine r_iload_n C dL_law_697 rfl ?_
  refine r_iconst (v := 1) C dL_law_698 (by decide) ?_
  refine r_iadd C dL_law_699 ?_
  refine r_sld C hX hbl hbA (vp_in_off hj (c := 1) (by decide) hL) dL_law_700 ?_
  refine callR_I C (run_V (As := [.int (f (nI j + 1).toNatClampNeg)]) (rest := [.int r1]) (ci := 6) C hN (tX6_made _ g e S N (f (nI j + 1).toNatClampNeg) _ h) gL_law_X6_made rfl dsX6_made rfl rfl ⟨(Nat.le_of_ble_eq_true rfl), (Nat.le_of_ble_eq_true rfl)⟩ rfl (List.mem_append_right _ (List.mem_of_getElem? (i := 0) rfl)) rfl (Nat.le_of_ble_eq_true rfl) dL_law_701 ⟨by show _ ≤ 600000; omega, by show _ ≤ 7302250; omega⟩) (List.sublist_append_right _ _) (fun _ => rfl) (fun r2 _ h => ?_)
  obtain ⟨he, h⟩ := h
  refine r_icmp_eq (tgt := 1025) C dL_law_704 (by decide) (fun _ => ?_) (fun c => absurd he c)
  exact r_widen (by omega) (by omega) (hR sb lw st sp sd ss sy si lp pf S h)
def cL_19 (N : Nat) (sb : RS) (lw : Nat → Option Nat) (st : RS) (sp : RS) (sd : RS) (ss : RS) (sy : RS) (si : Nat → Option Nat) (lp : List Nat) (pf : Nat → RS) (S : RS) (i0 : Int32) (i1 : Int32) (R : RS → (Nat → Option Nat) → RS → RS → RS → RS → RS → (Nat → Option Nat) → List Nat → (Nat → RS) → RS → Prop) : Prop :=
  fX5_told N sb i0 i1 (fun r1 sb1 => fX6_told N S i0 i1 (fun r2 S1 => (r1 = r2 ∧ R sb1 lw st sp sd ss sy si lp pf S1)))
set_option maxRecDepth 100000 in
set_option maxHeartbeats 4000000 in
theorem wL_19 {x : Nx} {g : Gx} {y : MethodName} {ret : Option FieldType} {a : Nat → Nat → Nat} {e : Nat → Nat} {sb : RS} {lw : Nat → Option Nat} {st : RS} {sp : RS} {sd : RS} {ss : RS} {sy : RS} {si : Nat → Option Nat} {lp : List Nat} {pf : Nat → RS} {S : RS} {N cells slots j b L : Nat} {f : Nat → Int32} {R : RS → (Nat → Option Nat) → RS → RS → RS → RS → RS → (Nat → Option Nat) → List Nat → (Nat → RS) → RS → Prop} (C : Cx x g cL_law RL wsL_law room_1 y ret 4) (hN : NW (xs x)) (hX : va_X b L f (xs x) (xs x).heap) (hbl : b < (xs x).heap.size) (hbA : ¬ xA x b) (hL : L ≤ 2560) (hj : j + 5 ≤ L) (hc : cells + 1 ≤ 600000) (hs : slots + 11 ≤ 7302250) (hR : ∀ sb lw st sp sd ss sy si lp pf S, R sb lw st sp sd ss sy si lp pf S → St x (cells + 1) (slots + 11) (lawW g a e sb lw st sp sd ss sy si lp pf S) [(0, .ref b), (1, .ref (a 0 50)), (2, .ref (e 50)), (3, .int (nI j))] [] 1025) (h : cL_19 N sb lw st sp sd ss sy si lp pf S (f (nI j + 1).toNatClampNeg) (f (nI j + 2).toNatClampNeg) R) : St x cells slots (lawW g a e sb lw st sp sd ss sy si lp pf S) [(0, .ref b), (1, .ref (a 0 50)), (2, .ref (e 50)), (3, .int (nI j))] [] 709 := by
  unfold cL_19 at h
  refine r_aload_n C dL_law_709 rfl ?_
  refine r_aload_n C dL_law_710 rfl ?_
  refine r_iload_n C dL_law_711 rfl ?_
  refine r_iconst (v := 1) C dL_law_712 (by decide) ?_
  refine r_iadd C dL_law_713 ?_
  refine r_sld C hX hbl hbA (vp_in_off hj (c := 1) (by decide) hL) dL_law_714 ?_
  refine r_aload_n C dL_law_715 rfl ?_
  refine r_iload_n C dL_law_716 rfl ?_
  refine r_iconst (v := 2) C dL_law_717 (by decide) ?_
  refine r_iadd C dL_law_718 ?_
  refine r_sld C hX hbl hbA (vp_in_off hj (c := 2) (by decide) hL) dL_law_719 ?_
  refine callP_I (ws' := fun z => lawW g a e z lw st sp sd ss sy si lp pf S) C (run_V (As := [.int (f (nI j + 1).toNatClampNeg), .int (f (nI j + 2).toNatClampNeg)]) (rest := []) (ci := 5) C hN (tX5_told _ g a sb lw st sp sd ss sy si lp pf N (f (nI j + 1).toNatClampNeg) (f (nI j + 2).toNatClampNeg) _ h) gL_law_X5_told rfl dsX5_told rfl rfl ⟨(Nat.le_of_ble_eq_true rfl), (Nat.le_of_ble_eq_true rfl)⟩ rfl (List.mem_append_left _ (List.mem_of_getElem? (i := 0) rfl)) rfl (Nat.le_of_ble_eq_true rfl) dL_law_720 ⟨by show _ ≤ 600000; omega, by show _ ≤ 7302250; omega⟩) pm0 (fun _ => pm0) (fun r1 sb1 h => ?_)
  show St x _ _ (lawW g a e sb1 lw st sp sd ss sy si lp pf S) _ _ 723
  refine r_aload_n C dL_law_723 rfl ?_
  refine r_aload_n C dL_law_724 rfl ?_
  refine r_iload_n C dL_law_725 rfl ?_
  refine r_iconst (v := 1) C dL_law_726 (by decide) ?_
  refine r_iadd C dL_law_727 ?_
  refine r_sld C hX hbl hbA (vp_in_off hj (c := 1) (by decide) hL) dL_law_728 ?_
  refine r_aload_n C dL_law_729 rfl ?_
  refine r_iload_n C dL_law_730 rfl ?_
  refine r_iconst (v := 2) C dL_law_731 (by decide) ?_
  refine r_iadd C dL_law_732 ?_
  refine r_sld C hX hbl hbA (vp_in_off hj (c := 2) (by decide) hL) dL_law_733 ?_
  refine callP_I (ws' := fun z => lawW g a e sb1 lw st sp sd ss sy si lp pf z) C (run_V (As := [.int (f (nI j + 1).toNatClampNeg), .int (f (nI j + 2).toNatClampNeg)]) (rest := [.int r1]) (ci := 6) C hN (tX6_told _ g e S N (f (nI j + 1).toNatClampNeg) (f (nI j + 2).toNatClampNeg) _ h) gL_law_X6_told rfl dsX6_told rfl rfl ⟨(Nat.le_of_ble_eq_true rfl), (Nat.le_of_ble_eq_true rfl)⟩ rfl (List.mem_append_right _ (List.mem_of_getElem? (i := 0) rfl)) rfl (Nat.le_of_ble_eq_true rfl) dL_law_734 ⟨by show _ ≤ 600000; omega, by show _ ≤ 7302250; omega⟩) List.perm_append_comm (fun _ => List.perm_append_comm) (fun r2 S1 h => ?_)
  show St x _ _ (lawW g a e sb1 lw st sp sd ss sy si lp pf S1) _ _ 737
  obtain ⟨he, h⟩ := h
  refine r_icmp_eq (tgt := 1025) C dL_law_737 (by decide) (fun _ => ?_) (fun c => absurd he c)
  exact r_widen (by omega) (by omega) (hR sb1 lw st sp sd ss sy si lp pf S1 h)
def cL_20 (N : Nat) (sb : RS) (lw : Nat → Option Nat) (st : RS) (sp : RS) (sd : RS) (ss : RS) (sy : RS) (si : Nat → Option Nat) (lp : List Nat) (pf : Nat → RS) (S : RS) (R : RS → (Nat → Option Nat) → RS → RS → RS → RS → RS → (Nat → Option Nat) → List Nat → (Nat → RS) → RS → Prop) : Prop :=
  fX5_clear N sb (fun r1 sb1 => fX6_clear N S (fun r2 S1 => (r1 = r2 ∧ R sb1 lw st sp sd ss sy si lp pf S1)))
set_option maxRecDepth 100000 in
set_option maxHeartbeats 4000000 in
theorem wL_20 {x : Nx} {g : Gx} {y : MethodName} {ret : Option FieldType} {a : Nat → Nat → Nat} {e : Nat → Nat} {sb : RS} {lw : Nat → Option Nat} {st : RS} {sp : RS} {sd : RS} {ss : RS} {sy : RS} {si : Nat → Option Nat} {lp : List Nat} {pf : Nat → RS} {S : RS} {N cells slots j b L : Nat} {f : Nat → Int32} {R : RS → (Nat → Option Nat) → RS → RS → RS → RS → RS → (Nat → Option Nat) → List Nat → (Nat → RS) → RS → Prop} (C : Cx x g cL_law RL wsL_law room_1 y ret 4) (hN : NW (xs x)) (hX : va_X b L f (xs x) (xs x).heap) (hbl : b < (xs x).heap.size) (hbA : ¬ xA x b) (hL : L ≤ 2560) (hj : j + 5 ≤ L) (hc : cells + 1 ≤ 600000) (hs : slots + 11 ≤ 7302250) (hR : ∀ sb lw st sp sd ss sy si lp pf S, R sb lw st sp sd ss sy si lp pf S → St x (cells + 1) (slots + 11) (lawW g a e sb lw st sp sd ss sy si lp pf S) [(0, .ref b), (1, .ref (a 0 50)), (2, .ref (e 50)), (3, .int (nI j))] [] 1025) (h : cL_20 N sb lw st sp sd ss sy si lp pf S R) : St x cells slots (lawW g a e sb lw st sp sd ss sy si lp pf S) [(0, .ref b), (1, .ref (a 0 50)), (2, .ref (e 50)), (3, .int (nI j))] [] 742 := by
  unfold cL_20 at h
  refine r_aload_n C dL_law_742 rfl ?_
  refine callP_I (ws' := fun z => lawW g a e z lw st sp sd ss sy si lp pf S) C (run_V (As := []) (rest := []) (ci := 5) C hN (tX5_clear _ g a sb lw st sp sd ss sy si lp pf N _ h) gL_law_X5_clear rfl dsX5_clear rfl rfl ⟨(Nat.le_of_ble_eq_true rfl), (Nat.le_of_ble_eq_true rfl)⟩ rfl (List.mem_append_left _ (List.mem_of_getElem? (i := 0) rfl)) rfl (Nat.le_of_ble_eq_true rfl) dL_law_743 ⟨by show _ ≤ 600000; omega, by show _ ≤ 7302250; omega⟩) pm0 (fun _ => pm0) (fun r1 sb1 h => ?_)
  show St x _ _ (lawW g a e sb1 lw st sp sd ss sy si lp pf S) _ _ 746
  refine r_aload_n C dL_law_746 rfl ?_
  refine callP_I (ws' := fun z => lawW g a e sb1 lw st sp sd ss sy si lp pf z) C (run_V (As := []) (rest := [.int r1]) (ci := 6) C hN (tX6_clear _ g e S N _ h) gL_law_X6_clear rfl dsX6_clear rfl rfl ⟨(Nat.le_of_ble_eq_true rfl), (Nat.le_of_ble_eq_true rfl)⟩ rfl (List.mem_append_right _ (List.mem_of_getElem? (i := 0) rfl)) rfl (Nat.le_of_ble_eq_true rfl) dL_law_747 ⟨by show _ ≤ 600000; omega, by show _ ≤ 7302250; omega⟩) List.perm_append_comm (fun _ => List.perm_append_comm) (fun r2 S1 h => ?_)
  show St x _ _ (lawW g a e sb1 lw st sp sd ss sy si lp pf S1) _ _ 750
  obtain ⟨he, h⟩ := h
  refine r_icmp_eq (tgt := 1025) C dL_law_750 (by decide) (fun _ => ?_) (fun c => absurd he c)
  exact r_widen (by omega) (by omega) (hR sb1 lw st sp sd ss sy si lp pf S1 h)
def cL_21 (N : Nat) (sb : RS) (lw : Nat → Option Nat) (st : RS) (sp : RS) (sd : RS) (ss : RS) (sy : RS) (si : Nat → Option Nat) (lp : List Nat) (pf : Nat → RS) (S : RS) (i0 : Int32) (R : RS → (Nat → Option Nat) → RS → RS → RS → RS → RS → (Nat → Option Nat) → List Nat → (Nat → RS) → RS → Prop) : Prop :=
  fX5_held N sb lw lp pf i0 (fun r1 => fX6_held N S i0 (fun r2 => (r1 = r2 ∧ R sb lw st sp sd ss sy si lp pf S)))
set_option maxRecDepth 100000 in
set_option maxHeartbeats 4000000 in
theorem wL_21 {x : Nx} {g : Gx} {y : MethodName} {ret : Option FieldType} {a : Nat → Nat → Nat} {e : Nat → Nat} {sb : RS} {lw : Nat → Option Nat} {st : RS} {sp : RS} {sd : RS} {ss : RS} {sy : RS} {si : Nat → Option Nat} {lp : List Nat} {pf : Nat → RS} {S : RS} {N cells slots j b L : Nat} {f : Nat → Int32} {R : RS → (Nat → Option Nat) → RS → RS → RS → RS → RS → (Nat → Option Nat) → List Nat → (Nat → RS) → RS → Prop} (C : Cx x g cL_law RL wsL_law room_1 y ret 4) (hN : NW (xs x)) (hX : va_X b L f (xs x) (xs x).heap) (hbl : b < (xs x).heap.size) (hbA : ¬ xA x b) (hL : L ≤ 2560) (hj : j + 5 ≤ L) (hc : cells + 1 ≤ 600000) (hs : slots + 11 ≤ 7302250) (hR : ∀ sb lw st sp sd ss sy si lp pf S, R sb lw st sp sd ss sy si lp pf S → St x (cells + 1) (slots + 11) (lawW g a e sb lw st sp sd ss sy si lp pf S) [(0, .ref b), (1, .ref (a 0 50)), (2, .ref (e 50)), (3, .int (nI j))] [] 1025) (h : cL_21 N sb lw st sp sd ss sy si lp pf S (f (nI j + 1).toNatClampNeg) R) : St x cells slots (lawW g a e sb lw st sp sd ss sy si lp pf S) [(0, .ref b), (1, .ref (a 0 50)), (2, .ref (e 50)), (3, .int (nI j))] [] 755 := by
  unfold cL_21 at h
  refine r_aload_n C dL_law_755 rfl ?_
  refine r_aload_n C dL_law_756 rfl ?_
  refine r_iload_n C dL_law_757 rfl ?_
  refine r_iconst (v := 1) C dL_law_758 (by decide) ?_
  refine r_iadd C dL_law_759 ?_
  refine r_sld C hX hbl hbA (vp_in_off hj (c := 1) (by decide) hL) dL_law_760 ?_
  refine callR_I C (run_V (As := [.int (f (nI j + 1).toNatClampNeg)]) (rest := []) (ci := 5) C hN (tX5_held _ g a sb lw st sp sd ss sy si lp pf N (f (nI j + 1).toNatClampNeg) _ h) gL_law_X5_held rfl dsX5_held rfl rfl ⟨(Nat.le_of_ble_eq_true rfl), (Nat.le_of_ble_eq_true rfl)⟩ rfl (List.mem_append_left _ (List.mem_of_getElem? (i := 0) rfl)) rfl (Nat.le_of_ble_eq_true rfl) dL_law_761 ⟨by show _ ≤ 600000; omega, by show _ ≤ 7302250; omega⟩) (List.sublist_append_left _ _) (fun _ => rfl) (fun r1 _ h => ?_)
  refine r_aload_n C dL_law_764 rfl ?_
  refine r_aload_n C dL_law_765 rfl ?_
  refine r_iload_n C dL_law_766 rfl ?_
  refine r_iconst (v := 1) C dL_law_767 (by decide) ?_
  refine r_iadd C dL_law_768 ?_
  refine r_sld C hX hbl hbA (vp_in_off hj (c := 1) (by decide) hL) dL_law_769 ?_
  refine callR_I C (run_V (As := [.int (f (nI j + 1).toNatClampNeg)]) (rest := [.int r1]) (ci := 6) C hN (tX6_held _ g e S N (f (nI j + 1).toNatClampNeg) _ h) gL_law_X6_held rfl dsX6_held rfl rfl ⟨(Nat.le_of_ble_eq_true rfl), (Nat.le_of_ble_eq_true rfl)⟩ rfl (List.mem_append_right _ (List.mem_of_getElem? (i := 0) rfl)) rfl (Nat.le_of_ble_eq_true rfl) dL_law_770 ⟨by show _ ≤ 600000; omega, by show _ ≤ 7302250; omega⟩) (List.sublist_append_right _ _) (fun _ => rfl) (fun r2 _ h => ?_)
  obtain ⟨he, h⟩ := h
  refine r_icmp_eq (tgt := 1025) C dL_law_773 (by decide) (fun _ => ?_) (fun c => absurd he c)
  exact r_widen (by omega) (by omega) (hR sb lw st sp sd ss sy si lp pf S h)
def cL_22 (N : Nat) (sb : RS) (lw : Nat → Option Nat) (st : RS) (sp : RS) (sd : RS) (ss : RS) (sy : RS) (si : Nat → Option Nat) (lp : List Nat) (pf : Nat → RS) (S : RS) (i0 : Int32) (R : RS → (Nat → Option Nat) → RS → RS → RS → RS → RS → (Nat → Option Nat) → List Nat → (Nat → RS) → RS → Prop) : Prop :=
  fX5_kept N sb lw lp pf i0 (fun r1 => fX6_kept N S i0 (fun r2 => (r1 = r2 ∧ R sb lw st sp sd ss sy si lp pf S)))
set_option maxRecDepth 100000 in
set_option maxHeartbeats 4000000 in
theorem wL_22 {x : Nx} {g : Gx} {y : MethodName} {ret : Option FieldType} {a : Nat → Nat → Nat} {e : Nat → Nat} {sb : RS} {lw : Nat → Option Nat} {st : RS} {sp : RS} {sd : RS} {ss : RS} {sy : RS} {si : Nat → Option Nat} {lp : List Nat} {pf : Nat → RS} {S : RS} {N cells slots j b L : Nat} {f : Nat → Int32} {R : RS → (Nat → Option Nat) → RS → RS → RS → RS → RS → (Nat → Option Nat) → List Nat → (Nat → RS) → RS → Prop} (C : Cx x g cL_law RL wsL_law room_1 y ret 4) (hN : NW (xs x)) (hX : va_X b L f (xs x) (xs x).heap) (hbl : b < (xs x).heap.size) (hbA : ¬ xA x b) (hL : L ≤ 2560) (hj : j + 5 ≤ L) (hc : cells + 1 ≤ 600000) (hs : slots + 11 ≤ 7302250) (hR : ∀ sb lw st sp sd ss sy si lp pf S, R sb lw st sp sd ss sy si lp pf S → St x (cells + 1) (slots + 11) (lawW g a e sb lw st sp sd ss sy si lp pf S) [(0, .ref b), (1, .ref (a 0 50)), (2, .ref (e 50)), (3, .int (nI j))] [] 1025) (h : cL_22 N sb lw st sp sd ss sy si lp pf S (f (nI j + 1).toNatClampNeg) R) : St x cells slots (lawW g a e sb lw st sp sd ss sy si lp pf S) [(0, .ref b), (1, .ref (a 0 50)), (2, .ref (e 50)), (3, .int (nI j))] [] 778 := by
  unfold cL_22 at h
  refine r_aload_n C dL_law_778 rfl ?_
  refine r_aload_n C dL_law_779 rfl ?_
  refine r_iload_n C dL_law_780 rfl ?_
  refine r_iconst (v := 1) C dL_law_781 (by decide) ?_
  refine r_iadd C dL_law_782 ?_
  refine r_sld C hX hbl hbA (vp_in_off hj (c := 1) (by decide) hL) dL_law_783 ?_
  refine callR_I C (run_V (As := [.int (f (nI j + 1).toNatClampNeg)]) (rest := []) (ci := 5) C hN (tX5_kept _ g a sb lw st sp sd ss sy si lp pf N (f (nI j + 1).toNatClampNeg) _ h) gL_law_X5_kept rfl dsX5_kept rfl rfl ⟨(Nat.le_of_ble_eq_true rfl), (Nat.le_of_ble_eq_true rfl)⟩ rfl (List.mem_append_left _ (List.mem_of_getElem? (i := 0) rfl)) rfl (Nat.le_of_ble_eq_true rfl) dL_law_784 ⟨by show _ ≤ 600000; omega, by show _ ≤ 7302250; omega⟩) (List.sublist_append_left _ _) (fun _ => rfl) (fun r1 _ h => ?_)
  refine r_aload_n C dL_law_787 rfl ?_
  refine r_aload_n C dL_law_788 rfl ?_
  refine r_iload_n C dL_law_789 rfl ?_
  refine r_iconst (v := 1) C dL_law_790 (by decide) ?_
  refine r_iadd C dL_law_791 ?_
  refine r_sld C hX hbl hbA (vp_in_off hj (c := 1) (by decide) hL) dL_law_792 ?_
  refine callR_I C (run_V (As := [.int (f (nI j + 1).toNatClampNeg)]) (rest := [.int r1]) (ci := 6) C hN (tX6_kept _ g e S N (f (nI j + 1).toNatClampNeg) _ h) gL_law_X6_kept rfl dsX6_kept rfl rfl ⟨(Nat.le_of_ble_eq_true rfl), (Nat.le_of_ble_eq_true rfl)⟩ rfl (List.mem_append_right _ (List.mem_of_getElem? (i := 0) rfl)) rfl (Nat.le_of_ble_eq_true rfl) dL_law_793 ⟨by show _ ≤ 600000; omega, by show _ ≤ 7302250; omega⟩) (List.sublist_append_right _ _) (fun _ => rfl) (fun r2 _ h => ?_)
  obtain ⟨he, h⟩ := h
  refine r_icmp_eq (tgt := 1025) C dL_law_796 (by decide) (fun _ => ?_) (fun c => absurd he c)
  exact r_widen (by omega) (by omega) (hR sb lw st sp sd ss sy si lp pf S h)
def cL_23 (N : Nat) (sb : RS) (lw : Nat → Option Nat) (st : RS) (sp : RS) (sd : RS) (ss : RS) (sy : RS) (si : Nat → Option Nat) (lp : List Nat) (pf : Nat → RS) (S : RS) (R : RS → (Nat → Option Nat) → RS → RS → RS → RS → RS → (Nat → Option Nat) → List Nat → (Nat → RS) → RS → Prop) : Prop :=
  fX5_part N sp (fun r1 sp1 => fX6_part N S (fun r2 S1 => (r1 = r2 ∧ R sb lw st sp1 sd ss sy si lp pf S1)))
set_option maxRecDepth 100000 in
set_option maxHeartbeats 4000000 in
theorem wL_23 {x : Nx} {g : Gx} {y : MethodName} {ret : Option FieldType} {a : Nat → Nat → Nat} {e : Nat → Nat} {sb : RS} {lw : Nat → Option Nat} {st : RS} {sp : RS} {sd : RS} {ss : RS} {sy : RS} {si : Nat → Option Nat} {lp : List Nat} {pf : Nat → RS} {S : RS} {N cells slots j b L : Nat} {f : Nat → Int32} {R : RS → (Nat → Option Nat) → RS → RS → RS → RS → RS → (Nat → Option Nat) → List Nat → (Nat → RS) → RS → Prop} (C : Cx x g cL_law RL wsL_law room_1 y ret 4) (hN : NW (xs x)) (hX : va_X b L f (xs x) (xs x).heap) (hbl : b < (xs x).heap.size) (hbA : ¬ xA x b) (hL : L ≤ 2560) (hj : j + 5 ≤ L) (hc : cells + 1 ≤ 600000) (hs : slots + 11 ≤ 7302250) (hR : ∀ sb lw st sp sd ss sy si lp pf S, R sb lw st sp sd ss sy si lp pf S → St x (cells + 1) (slots + 11) (lawW g a e sb lw st sp sd ss sy si lp pf S) [(0, .ref b), (1, .ref (a 0 50)), (2, .ref (e 50)), (3, .int (nI j))] [] 1025) (h : cL_23 N sb lw st sp sd ss sy si lp pf S R) : St x cells slots (lawW g a e sb lw st sp sd ss sy si lp pf S) [(0, .ref b), (1, .ref (a 0 50)), (2, .ref (e 50)), (3, .int (nI j))] [] 801 := by
  unfold cL_23 at h
  refine r_aload_n C dL_law_801 rfl ?_
  refine callP_I (ws' := fun z => lawW g a e sb lw st z sd ss sy si lp pf S) C (run_V (As := []) (rest := []) (ci := 5) C hN (tX5_part _ g a sb lw st sp sd ss sy si lp pf N _ h) gL_law_X5_part rfl dsX5_part rfl rfl ⟨(Nat.le_of_ble_eq_true rfl), (Nat.le_of_ble_eq_true rfl)⟩ rfl (List.mem_append_left _ (List.mem_of_getElem? (i := 0) rfl)) rfl (Nat.le_of_ble_eq_true rfl) dL_law_802 ⟨by show _ ≤ 600000; omega, by show _ ≤ 7302250; omega⟩) pm0 (fun _ => pm0) (fun r1 sp1 h => ?_)
  show St x _ _ (lawW g a e sb lw st sp1 sd ss sy si lp pf S) _ _ 805
  refine r_aload_n C dL_law_805 rfl ?_
  refine callP_I (ws' := fun z => lawW g a e sb lw st sp1 sd ss sy si lp pf z) C (run_V (As := []) (rest := [.int r1]) (ci := 6) C hN (tX6_part _ g e S N _ h) gL_law_X6_part rfl dsX6_part rfl rfl ⟨(Nat.le_of_ble_eq_true rfl), (Nat.le_of_ble_eq_true rfl)⟩ rfl (List.mem_append_right _ (List.mem_of_getElem? (i := 0) rfl)) rfl (Nat.le_of_ble_eq_true rfl) dL_law_806 ⟨by show _ ≤ 600000; omega, by show _ ≤ 7302250; omega⟩) List.perm_append_comm (fun _ => List.perm_append_comm) (fun r2 S1 h => ?_)
  show St x _ _ (lawW g a e sb lw st sp1 sd ss sy si lp pf S1) _ _ 809
  obtain ⟨he, h⟩ := h
  refine r_icmp_eq (tgt := 1025) C dL_law_809 (by decide) (fun _ => ?_) (fun c => absurd he c)
  exact r_widen (by omega) (by omega) (hR sb lw st sp1 sd ss sy si lp pf S1 h)
def cL_24 (N : Nat) (sb : RS) (lw : Nat → Option Nat) (st : RS) (sp : RS) (sd : RS) (ss : RS) (sy : RS) (si : Nat → Option Nat) (lp : List Nat) (pf : Nat → RS) (S : RS) (i0 : Int32) (i1 : Int32) (i2 : Int32) (R : RS → (Nat → Option Nat) → RS → RS → RS → RS → RS → (Nat → Option Nat) → List Nat → (Nat → RS) → RS → Prop) : Prop :=
  fX5_use N sp i0 i1 i2 (fun r1 sp1 => fX6_use N S i0 i1 i2 (fun r2 S1 => (r1 = r2 ∧ R sb lw st sp1 sd ss sy si lp pf S1)))
set_option maxRecDepth 100000 in
set_option maxHeartbeats 4000000 in
theorem wL_24 {x : Nx} {g : Gx} {y : MethodName} {ret : Option FieldType} {a : Nat → Nat → Nat} {e : Nat → Nat} {sb : RS} {lw : Nat → Option Nat} {st : RS} {sp : RS} {sd : RS} {ss : RS} {sy : RS} {si : Nat → Option Nat} {lp : List Nat} {pf : Nat → RS} {S : RS} {N cells slots j b L : Nat} {f : Nat → Int32} {R : RS → (Nat → Option Nat) → RS → RS → RS → RS → RS → (Nat → Option Nat) → List Nat → (Nat → RS) → RS → Prop} (C : Cx x g cL_law RL wsL_law room_1 y ret 4) (hN : NW (xs x)) (hX : va_X b L f (xs x) (xs x).heap) (hbl : b < (xs x).heap.size) (hbA : ¬ xA x b) (hL : L ≤ 2560) (hj : j + 5 ≤ L) (hc : cells + 1 ≤ 600000) (hs : slots + 11 ≤ 7302250) (hR : ∀ sb lw st sp sd ss sy si lp pf S, R sb lw st sp sd ss sy si lp pf S → St x (cells + 1) (slots + 11) (lawW g a e sb lw st sp sd ss sy si lp pf S) [(0, .ref b), (1, .ref (a 0 50)), (2, .ref (e 50)), (3, .int (nI j))] [] 1025) (h : cL_24 N sb lw st sp sd ss sy si lp pf S (f (nI j + 1).toNatClampNeg) (f (nI j + 2).toNatClampNeg) (f (nI j + 3).toNatClampNeg) R) : St x cells slots (lawW g a e sb lw st sp sd ss sy si lp pf S) [(0, .ref b), (1, .ref (a 0 50)), (2, .ref (e 50)), (3, .int (nI j))] [] 814 := by
  unfold cL_24 at h
  refine r_aload_n C dL_law_814 rfl ?_
  refine r_aload_n C dL_law_815 rfl ?_
  refine r_iload_n C dL_law_816 rfl ?_
  refine r_iconst (v := 1) C dL_law_817 (by decide) ?_
  refine r_iadd C dL_law_818 ?_
  refine r_sld C hX hbl hbA (vp_in_off hj (c := 1) (by decide) hL) dL_law_819 ?_
  refine r_aload_n C dL_law_820 rfl ?_
  refine r_iload_n C dL_law_821 rfl ?_
  refine r_iconst (v := 2) C dL_law_822 (by decide) ?_
  refine r_iadd C dL_law_823 ?_
  refine r_sld C hX hbl hbA (vp_in_off hj (c := 2) (by decide) hL) dL_law_824 ?_
  refine r_aload_n C dL_law_825 rfl ?_
  refine r_iload_n C dL_law_826 rfl ?_
  refine r_iconst (v := 3) C dL_law_827 (by decide) ?_
  refine r_iadd C dL_law_828 ?_
  refine r_sld C hX hbl hbA (vp_in_off hj (c := 3) (by decide) hL) dL_law_829 ?_
  refine callP_I (ws' := fun z => lawW g a e sb lw st z sd ss sy si lp pf S) C (run_V (As := [.int (f (nI j + 1).toNatClampNeg), .int (f (nI j + 2).toNatClampNeg), .int (f (nI j + 3).toNatClampNeg)]) (rest := []) (ci := 5) C hN (tX5_use _ g a sb lw st sp sd ss sy si lp pf N (f (nI j + 1).toNatClampNeg) (f (nI j + 2).toNatClampNeg) (f (nI j + 3).toNatClampNeg) _ h) gL_law_X5_use rfl dsX5_use rfl rfl ⟨(Nat.le_of_ble_eq_true rfl), (Nat.le_of_ble_eq_true rfl)⟩ rfl (List.mem_append_left _ (List.mem_of_getElem? (i := 0) rfl)) rfl (Nat.le_of_ble_eq_true rfl) dL_law_830 ⟨by show _ ≤ 600000; omega, by show _ ≤ 7302250; omega⟩) pm0 (fun _ => pm0) (fun r1 sp1 h => ?_)
  show St x _ _ (lawW g a e sb lw st sp1 sd ss sy si lp pf S) _ _ 833
  refine r_aload_n C dL_law_833 rfl ?_
  refine r_aload_n C dL_law_834 rfl ?_
  refine r_iload_n C dL_law_835 rfl ?_
  refine r_iconst (v := 1) C dL_law_836 (by decide) ?_
  refine r_iadd C dL_law_837 ?_
  refine r_sld C hX hbl hbA (vp_in_off hj (c := 1) (by decide) hL) dL_law_838 ?_
  refine r_aload_n C dL_law_839 rfl ?_
  refine r_iload_n C dL_law_840 rfl ?_
  refine r_iconst (v := 2) C dL_law_841 (by decide) ?_
  refine r_iadd C dL_law_842 ?_
  refine r_sld C hX hbl hbA (vp_in_off hj (c := 2) (by decide) hL) dL_law_843 ?_
  refine r_aload_n C dL_law_844 rfl ?_
  refine r_iload_n C dL_law_845 rfl ?_
  refine r_iconst (v := 3) C dL_law_846 (by decide) ?_
  refine r_iadd C dL_law_847 ?_
  refine r_sld C hX hbl hbA (vp_in_off hj (c := 3) (by decide) hL) dL_law_848 ?_
  refine callP_I (ws' := fun z => lawW g a e sb lw st sp1 sd ss sy si lp pf z) C (run_V (As := [.int (f (nI j + 1).toNatClampNeg), .int (f (nI j + 2).toNatClampNeg), .int (f (nI j + 3).toNatClampNeg)]) (rest := [.int r1]) (ci := 6) C hN (tX6_use _ g e S N (f (nI j + 1).toNatClampNeg) (f (nI j + 2).toNatClampNeg) (f (nI j + 3).toNatClampNeg) _ h) gL_law_X6_use rfl dsX6_use rfl rfl ⟨(Nat.le_of_ble_eq_true rfl), (Nat.le_of_ble_eq_true rfl)⟩ rfl (List.mem_append_right _ (List.mem_of_getElem? (i := 0) rfl)) rfl (Nat.le_of_ble_eq_true rfl) dL_law_849 ⟨by show _ ≤ 600000; omega, by show _ ≤ 7302250; omega⟩) List.perm_append_comm (fun _ => List.perm_append_comm) (fun r2 S1 h => ?_)
  show St x _ _ (lawW g a e sb lw st sp1 sd ss sy si lp pf S1) _ _ 852
  obtain ⟨he, h⟩ := h
  refine r_icmp_eq (tgt := 1025) C dL_law_852 (by decide) (fun _ => ?_) (fun c => absurd he c)
  exact r_widen (by omega) (by omega) (hR sb lw st sp1 sd ss sy si lp pf S1 h)
def cL_25 (N : Nat) (sb : RS) (lw : Nat → Option Nat) (st : RS) (sp : RS) (sd : RS) (ss : RS) (sy : RS) (si : Nat → Option Nat) (lp : List Nat) (pf : Nat → RS) (S : RS) (i0 : Int32) (i1 : Int32) (i2 : Int32) (R : RS → (Nat → Option Nat) → RS → RS → RS → RS → RS → (Nat → Option Nat) → List Nat → (Nat → RS) → RS → Prop) : Prop :=
  fX5_lead N sb lw sp lp pf i0 i1 i2 (fun r1 pf1 => fX6_lead N S i0 i1 i2 (fun r2 S1 => (r1 = r2 ∧ R sb lw st sp sd ss sy si lp pf1 S1)))
set_option maxRecDepth 100000 in
set_option maxHeartbeats 4000000 in
theorem wL_25 {x : Nx} {g : Gx} {y : MethodName} {ret : Option FieldType} {a : Nat → Nat → Nat} {e : Nat → Nat} {sb : RS} {lw : Nat → Option Nat} {st : RS} {sp : RS} {sd : RS} {ss : RS} {sy : RS} {si : Nat → Option Nat} {lp : List Nat} {pf : Nat → RS} {S : RS} {N cells slots j b L : Nat} {f : Nat → Int32} {R : RS → (Nat → Option Nat) → RS → RS → RS → RS → RS → (Nat → Option Nat) → List Nat → (Nat → RS) → RS → Prop} (C : Cx x g cL_law RL wsL_law room_1 y ret 4) (hN : NW (xs x)) (hX : va_X b L f (xs x) (xs x).heap) (hbl : b < (xs x).heap.size) (hbA : ¬ xA x b) (hL : L ≤ 2560) (hj : j + 5 ≤ L) (hc : cells + 1 ≤ 600000) (hs : slots + 11 ≤ 7302250) (hR : ∀ sb lw st sp sd ss sy si lp pf S, R sb lw st sp sd ss sy si lp pf S → St x (cells + 1) (slots + 11) (lawW g a e sb lw st sp sd ss sy si lp pf S) [(0, .ref b), (1, .ref (a 0 50)), (2, .ref (e 50)), (3, .int (nI j))] [] 1025) (h : cL_25 N sb lw st sp sd ss sy si lp pf S (f (nI j + 1).toNatClampNeg) (f (nI j + 2).toNatClampNeg) (f (nI j + 3).toNatClampNeg) R) : St x cells slots (lawW g a e sb lw st sp sd ss sy si lp pf S) [(0, .ref b), (1, .ref (a 0 50)), (2, .ref (e 50)), (3, .int (nI j))] [] 857 := by
  unfold cL_25 at h
  refine r_aload_n C dL_law_857 rfl ?_
  refine r_aload_n C dL_law_858 rfl ?_
  refine r_iload_n C dL_law_859 rfl ?_
  refine r_iconst (v := 1) C dL_law_860 (by decide) ?_
  refine r_iadd C dL_law_861 ?_
  refine r_sld C hX hbl hbA (vp_in_off hj (c := 1) (by decide) hL) dL_law_862 ?_
  refine r_aload_n C dL_law_863 rfl ?_
  refine r_iload_n C dL_law_864 rfl ?_
  refine r_iconst (v := 2) C dL_law_865 (by decide) ?_
  refine r_iadd C dL_law_866 ?_
  refine r_sld C hX hbl hbA (vp_in_off hj (c := 2) (by decide) hL) dL_law_867 ?_
  refine r_aload_n C dL_law_868 rfl ?_
  refine r_iload_n C dL_law_869 rfl ?_
  refine r_iconst (v := 3) C dL_law_870 (by decide) ?_
  refine r_iadd C dL_law_871 ?_
  refine r_sld C hX hbl hbA (vp_in_off hj (c := 3) (by decide) hL) dL_law_872 ?_
  refine callP_I (ws' := fun z => lawW g a e sb lw st sp sd ss sy si lp z S) C (run_V (As := [.int (f (nI j + 1).toNatClampNeg), .int (f (nI j + 2).toNatClampNeg), .int (f (nI j + 3).toNatClampNeg)]) (rest := []) (ci := 5) C hN (tX5_lead _ g a sb lw st sp sd ss sy si lp pf N (f (nI j + 1).toNatClampNeg) (f (nI j + 2).toNatClampNeg) (f (nI j + 3).toNatClampNeg) _ h) gL_law_X5_lead rfl dsX5_lead rfl rfl ⟨(Nat.le_of_ble_eq_true rfl), (Nat.le_of_ble_eq_true rfl)⟩ rfl (List.mem_append_left _ (List.mem_of_getElem? (i := 0) rfl)) rfl (Nat.le_of_ble_eq_true rfl) dL_law_873 ⟨by show _ ≤ 600000; omega, by show _ ≤ 7302250; omega⟩) pm0 (fun _ => pm0) (fun r1 pf1 h => ?_)
  show St x _ _ (lawW g a e sb lw st sp sd ss sy si lp pf1 S) _ _ 876
  refine r_aload_n C dL_law_876 rfl ?_
  refine r_aload_n C dL_law_877 rfl ?_
  refine r_iload_n C dL_law_878 rfl ?_
  refine r_iconst (v := 1) C dL_law_879 (by decide) ?_
  refine r_iadd C dL_law_880 ?_
  refine r_sld C hX hbl hbA (vp_in_off hj (c := 1) (by decide) hL) dL_law_881 ?_
  refine r_aload_n C dL_law_882 rfl ?_
  refine r_iload_n C dL_law_883 rfl ?_
  refine r_iconst (v := 2) C dL_law_884 (by decide) ?_
  refine r_iadd C dL_law_885 ?_
  refine r_sld C hX hbl hbA (vp_in_off hj (c := 2) (by decide) hL) dL_law_886 ?_
  refine r_aload_n C dL_law_887 rfl ?_
  refine r_iload_n C dL_law_888 rfl ?_
  refine r_iconst (v := 3) C dL_law_889 (by decide) ?_
  refine r_iadd C dL_law_890 ?_
  refine r_sld C hX hbl hbA (vp_in_off hj (c := 3) (by decide) hL) dL_law_891 ?_
  refine callP_I (ws' := fun z => lawW g a e sb lw st sp sd ss sy si lp pf1 z) C (run_V (As := [.int (f (nI j + 1).toNatClampNeg), .int (f (nI j + 2).toNatClampNeg), .int (f (nI j + 3).toNatClampNeg)]) (rest := [.int r1]) (ci := 6) C hN (tX6_lead _ g e S N (f (nI j + 1).toNatClampNeg) (f (nI j + 2).toNatClampNeg) (f (nI j + 3).toNatClampNeg) _ h) gL_law_X6_lead rfl dsX6_lead rfl rfl ⟨(Nat.le_of_ble_eq_true rfl), (Nat.le_of_ble_eq_true rfl)⟩ rfl (List.mem_append_right _ (List.mem_of_getElem? (i := 0) rfl)) rfl (Nat.le_of_ble_eq_true rfl) dL_law_892 ⟨by show _ ≤ 600000; omega, by show _ ≤ 7302250; omega⟩) List.perm_append_comm (fun _ => List.perm_append_comm) (fun r2 S1 h => ?_)
  show St x _ _ (lawW g a e sb lw st sp sd ss sy si lp pf1 S1) _ _ 895
  obtain ⟨he, h⟩ := h
  refine r_icmp_eq (tgt := 1025) C dL_law_895 (by decide) (fun _ => ?_) (fun c => absurd he c)
  exact r_widen (by omega) (by omega) (hR sb lw st sp sd ss sy si lp pf1 S1 h)
def cL_26 (N : Nat) (sb : RS) (lw : Nat → Option Nat) (st : RS) (sp : RS) (sd : RS) (ss : RS) (sy : RS) (si : Nat → Option Nat) (lp : List Nat) (pf : Nat → RS) (S : RS) (i0 : Int32) (R : RS → (Nat → Option Nat) → RS → RS → RS → RS → RS → (Nat → Option Nat) → List Nat → (Nat → RS) → RS → Prop) : Prop :=
  fX5_gaps N sb lw lp pf i0 (fun r1 => fX6_gaps N S i0 (fun r2 => (r1 = r2 ∧ R sb lw st sp sd ss sy si lp pf S)))
set_option maxRecDepth 100000 in
set_option maxHeartbeats 4000000 in
theorem wL_26 {x : Nx} {g : Gx} {y : MethodName} {ret : Option FieldType} {a : Nat → Nat → Nat} {e : Nat → Nat} {sb : RS} {lw : Nat → Option Nat} {st : RS} {sp : RS} {sd : RS} {ss : RS} {sy : RS} {si : Nat → Option Nat} {lp : List Nat} {pf : Nat → RS} {S : RS} {N cells slots j b L : Nat} {f : Nat → Int32} {R : RS → (Nat → Option Nat) → RS → RS → RS → RS → RS → (Nat → Option Nat) → List Nat → (Nat → RS) → RS → Prop} (C : Cx x g cL_law RL wsL_law room_1 y ret 4) (hN : NW (xs x)) (hX : va_X b L f (xs x) (xs x).heap) (hbl : b < (xs x).heap.size) (hbA : ¬ xA x b) (hL : L ≤ 2560) (hj : j + 5 ≤ L) (hc : cells + 1 ≤ 600000) (hs : slots + 11 ≤ 7302250) (hR : ∀ sb lw st sp sd ss sy si lp pf S, R sb lw st sp sd ss sy si lp pf S → St x (cells + 1) (slots + 11) (lawW g a e sb lw st sp sd ss sy si lp pf S) [(0, .ref b), (1, .ref (a 0 50)), (2, .ref (e 50)), (3, .int (nI j))] [] 1025) (h : cL_26 N sb lw st sp sd ss sy si lp pf S (f (nI j + 1).toNatClampNeg) R) : St x cells slots (lawW g a e sb lw st sp sd ss sy si lp pf S) [(0, .ref b), (1, .ref (a 0 50)), (2, .ref (e 50)), (3, .int (nI j))] [] 900 := by
  unfold cL_26 at h
  refine r_aload_n C dL_law_900 rfl ?_
  refine r_aload_n C dL_law_901 rfl ?_
  refine r_iload_n C dL_law_902 rfl ?_
  refine r_iconst (v := 1) C dL_law_903 (by decide) ?_
  refine r_iadd C dL_law_904 ?_
  refine r_sld C hX hbl hbA (vp_in_off hj (c := 1) (by decide) hL) dL_law_905 ?_
  refine callR_I C (run_V (As := [.int (f (nI j + 1).toNatClampNeg)]) (rest := []) (ci := 5) C hN (tX5_gaps _ g a sb lw st sp sd ss sy si lp pf N (f (nI j + 1).toNatClampNeg) _ h) gL_law_X5_gaps rfl dsX5_gaps rfl rfl ⟨(Nat.le_of_ble_eq_true rfl), (Nat.le_of_ble_eq_true rfl)⟩ rfl (List.mem_append_left _ (List.mem_of_getElem? (i := 0) rfl)) rfl (Nat.le_of_ble_eq_true rfl) dL_law_906 ⟨by show _ ≤ 600000; omega, by show _ ≤ 7302250; omega⟩) (List.sublist_append_left _ _) (fun _ => rfl) (fun r1 _ h => ?_)
  refine r_aload_n C dL_law_909 rfl ?_
  refine r_aload_n C dL_law_910 rfl ?_
  refine r_iload_n C dL_law_911 rfl ?_
  refine r_iconst (v := 1) C dL_law_912 (by decide) ?_
  refine r_iadd C dL_law_913 ?_
  refine r_sld C hX hbl hbA (vp_in_off hj (c := 1) (by decide) hL) dL_law_914 ?_
  refine callR_I C (run_V (As := [.int (f (nI j + 1).toNatClampNeg)]) (rest := [.int r1]) (ci := 6) C hN (tX6_gaps _ g e S N (f (nI j + 1).toNatClampNeg) _ h) gL_law_X6_gaps rfl dsX6_gaps rfl rfl ⟨(Nat.le_of_ble_eq_true rfl), (Nat.le_of_ble_eq_true rfl)⟩ rfl (List.mem_append_right _ (List.mem_of_getElem? (i := 0) rfl)) rfl (Nat.le_of_ble_eq_true rfl) dL_law_915 ⟨by show _ ≤ 600000; omega, by show _ ≤ 7302250; omega⟩) (List.sublist_append_right _ _) (fun _ => rfl) (fun r2 _ h => ?_)
  obtain ⟨he, h⟩ := h
  refine r_icmp_eq (tgt := 1025) C dL_law_918 (by decide) (fun _ => ?_) (fun c => absurd he c)
  exact r_widen (by omega) (by omega) (hR sb lw st sp sd ss sy si lp pf S h)
def cL_27 (N : Nat) (sb : RS) (lw : Nat → Option Nat) (st : RS) (sp : RS) (sd : RS) (ss : RS) (sy : RS) (si : Nat → Option Nat) (lp : List Nat) (pf : Nat → RS) (S : RS) (i0 : Int32) (R : RS → (Nat → Option Nat) → RS → RS → RS → RS → RS → (Nat → Option Nat) → List Nat → (Nat → RS) → RS → Prop) : Prop :=
  fX5_bare N sb lw sp lp pf i0 (fun r1 => fX6_bare N S i0 (fun r2 => (r1 = r2 ∧ R sb lw st sp sd ss sy si lp pf S)))
set_option maxRecDepth 100000 in
set_option maxHeartbeats 4000000 in
theorem wL_27 {x : Nx} {g : Gx} {y : MethodName} {ret : Option FieldType} {a : Nat → Nat → Nat} {e : Nat → Nat} {sb : RS} {lw : Nat → Option Nat} {st : RS} {sp : RS} {sd : RS} {ss : RS} {sy : RS} {si : Nat → Option Nat} {lp : List Nat} {pf : Nat → RS} {S : RS} {N cells slots j b L : Nat} {f : Nat → Int32} {R : RS → (Nat → Option Nat) → RS → RS → RS → RS → RS → (Nat → Option Nat) → List Nat → (Nat → RS) → RS → Prop} (C : Cx x g cL_law RL wsL_law room_1 y ret 4) (hN : NW (xs x)) (hX : va_X b L f (xs x) (xs x).heap) (hbl : b < (xs x).heap.size) (hbA : ¬ xA x b) (hL : L ≤ 2560) (hj : j + 5 ≤ L) (hc : cells + 1 ≤ 600000) (hs : slots + 11 ≤ 7302250) (hR : ∀ sb lw st sp sd ss sy si lp pf S, R sb lw st sp sd ss sy si lp pf S → St x (cells + 1) (slots + 11) (lawW g a e sb lw st sp sd ss sy si lp pf S) [(0, .ref b), (1, .ref (a 0 50)), (2, .ref (e 50)), (3, .int (nI j))] [] 1025) (h : cL_27 N sb lw st sp sd ss sy si lp pf S (f (nI j + 1).toNatClampNeg) R) : St x cells slots (lawW g a e sb lw st sp sd ss sy si lp pf S) [(0, .ref b), (1, .ref (a 0 50)), (2, .ref (e 50)), (3, .int (nI j))] [] 923 := by
  unfold cL_27 at h
  refine r_aload_n C dL_law_923 rfl ?_
  refine r_aload_n C dL_law_924 rfl ?_
  refine r_iload_n C dL_law_925 rfl ?_
  refine r_iconst (v := 1) C dL_law_926 (by decide) ?_
  refine r_iadd C dL_law_927 ?_
  refine r_sld C hX hbl hbA (vp_in_off hj (c := 1) (by decide) hL) dL_law_928 ?_
  refine callR_I C (run_V (As := [.int (f (nI j + 1).toNatClampNeg)]) (rest := []) (ci := 5) C hN (tX5_bare _ g a sb lw st sp sd ss sy si lp pf N (f (nI j + 1).toNatClampNeg) _ h) gL_law_X5_bare rfl dsX5_bare rfl rfl ⟨(Nat.le_of_ble_eq_true rfl), (Nat.le_of_ble_eq_true rfl)⟩ rfl (List.mem_append_left _ (List.mem_of_getElem? (i := 0) rfl)) rfl (Nat.le_of_ble_eq_true rfl) dL_law_929 ⟨by show _ ≤ 600000; omega, by show _ ≤ 7302250; omega⟩) (List.sublist_append_left _ _) (fun _ => rfl) (fun r1 _ h => ?_)
  refine r_aload_n C dL_law_932 rfl ?_
  refine r_aload_n C dL_law_933 rfl ?_
  refine r_iload_n C dL_law_934 rfl ?_
  refine r_iconst (v := 1) C dL_law_935 (by decide) ?_
  refine r_iadd C dL_law_936 ?_
  refine r_sld C hX hbl hbA (vp_in_off hj (c := 1) (by decide) hL) dL_law_937 ?_
  refine callR_I C (run_V (As := [.int (f (nI j + 1).toNatClampNeg)]) (rest := [.int r1]) (ci := 6) C hN (tX6_bare _ g e S N (f (nI j + 1).toNatClampNeg) _ h) gL_law_X6_bare rfl dsX6_bare rfl rfl ⟨(Nat.le_of_ble_eq_true rfl), (Nat.le_of_ble_eq_true rfl)⟩ rfl (List.mem_append_right _ (List.mem_of_getElem? (i := 0) rfl)) rfl (Nat.le_of_ble_eq_true rfl) dL_law_938 ⟨by show _ ≤ 600000; omega, by show _ ≤ 7302250; omega⟩) (List.sublist_append_right _ _) (fun _ => rfl) (fun r2 _ h => ?_)
  obtain ⟨he, h⟩ := h
  refine r_icmp_eq (tgt := 1025) C dL_law_941 (by decide) (fun _ => ?_) (fun c => absurd he c)
  exact r_widen (by omega) (by omega) (hR sb lw st sp sd ss sy si lp pf S h)
def cL_28 (N : Nat) (sb : RS) (lw : Nat → Option Nat) (st : RS) (sp : RS) (sd : RS) (ss : RS) (sy : RS) (si : Nat → Option Nat) (lp : List Nat) (pf : Nat → RS) (S : RS) (i0 : Int32) (R : RS → (Nat → Option Nat) → RS → RS → RS → RS → RS → (Nat → Option Nat) → List Nat → (Nat → RS) → RS → Prop) : Prop :=
  fX5_reach N sb lw sp lp pf i0 (fun r1 => fX6_reach N S i0 (fun r2 => (r1 = r2 ∧ R sb lw st sp sd ss sy si lp pf S)))
set_option maxRecDepth 100000 in
set_option maxHeartbeats 4000000 in
theorem wL_28 {x : Nx} {g : Gx} {y : MethodName} {ret : Option FieldType} {a : Nat → Nat → Nat} {e : Nat → Nat} {sb : RS} {lw : Nat → Option Nat} {st : RS} {sp : RS} {sd : RS} {ss : RS} {sy : RS} {si : Nat → Option Nat} {lp : List Nat} {pf : Nat → RS} {S : RS} {N cells slots j b L : Nat} {f : Nat → Int32} {R : RS → (Nat → Option Nat) → RS → RS → RS → RS → RS → (Nat → Option Nat) → List Nat → (Nat → RS) → RS → Prop} (C : Cx x g cL_law RL wsL_law room_1 y ret 4) (hN : NW (xs x)) (hX : va_X b L f (xs x) (xs x).heap) (hbl : b < (xs x).heap.size) (hbA : ¬ xA x b) (hL : L ≤ 2560) (hj : j + 5 ≤ L) (hc : cells + 1 ≤ 600000) (hs : slots + 11 ≤ 7302250) (hR : ∀ sb lw st sp sd ss sy si lp pf S, R sb lw st sp sd ss sy si lp pf S → St x (cells + 1) (slots + 11) (lawW g a e sb lw st sp sd ss sy si lp pf S) [(0, .ref b), (1, .ref (a 0 50)), (2, .ref (e 50)), (3, .int (nI j))] [] 1025) (h : cL_28 N sb lw st sp sd ss sy si lp pf S (f (nI j + 1).toNatClampNeg) R) : St x cells slots (lawW g a e sb lw st sp sd ss sy si lp pf S) [(0, .ref b), (1, .ref (a 0 50)), (2, .ref (e 50)), (3, .int (nI j))] [] 946 := by
  unfold cL_28 at h
  refine r_aload_n C dL_law_946 rfl ?_
  refine r_aload_n C dL_law_947 rfl ?_
  refine r_iload_n C dL_law_948 rfl ?_
  refine r_iconst (v := 1) C dL_law_949 (by decide) ?_
  refine r_iadd C dL_law_950 ?_
  refine r_sld C hX hbl hbA (vp_in_off hj (c := 1) (by decide) hL) dL_law_951 ?_
  refine callR_I C (run_V (As := [.int (f (nI j + 1).toNatClampNeg)]) (rest := []) (ci := 5) C hN (tX5_reach _ g a sb lw st sp sd ss sy si lp pf N (f (nI j + 1).toNatClampNeg) _ h) gL_law_X5_reach rfl dsX5_reach rfl rfl ⟨(Nat.le_of_ble_eq_true rfl), (Nat.le_of_ble_eq_true rfl)⟩ rfl (List.mem_append_left _ (List.mem_of_getElem? (i := 0) rfl)) rfl (Nat.le_of_ble_eq_true rfl) dL_law_952 ⟨by show _ ≤ 600000; omega, by show _ ≤ 7302250; omega⟩) (List.sublist_append_left _ _) (fun _ => rfl) (fun r1 _ h => ?_)
  refine r_aload_n C dL_law_955 rfl ?_
  refine r_aload_n C dL_law_956 rfl ?_
  refine r_iload_n C dL_law_957 rfl ?_
  refine r_iconst (v := 1) C dL_law_958 (by decide) ?_
  refine r_iadd C dL_law_959 ?_
  refine r_sld C hX hbl hbA (vp_in_off hj (c := 1) (by decide) hL) dL_law_960 ?_
  refine callR_I C (run_V (As := [.int (f (nI j + 1).toNatClampNeg)]) (rest := [.int r1]) (ci := 6) C hN (tX6_reach _ g e S N (f (nI j + 1).toNatClampNeg) _ h) gL_law_X6_reach rfl dsX6_reach rfl rfl ⟨(Nat.le_of_ble_eq_true rfl), (Nat.le_of_ble_eq_true rfl)⟩ rfl (List.mem_append_right _ (List.mem_of_getElem? (i := 0) rfl)) rfl (Nat.le_of_ble_eq_true rfl) dL_law_961 ⟨by show _ ≤ 600000; omega, by show _ ≤ 7302250; omega⟩) (List.sublist_append_right _ _) (fun _ => rfl) (fun r2 _ h => ?_)
  obtain ⟨he, h⟩ := h
  refine r_icmp_eq (tgt := 1025) C dL_law_964 (by decide) (fun _ => ?_) (fun c => absurd he c)
  exact r_widen (by omega) (by omega) (hR sb lw st sp sd ss sy si lp pf S h)
def cL_29 (N : Nat) (sb : RS) (lw : Nat → Option Nat) (st : RS) (sp : RS) (sd : RS) (ss : RS) (sy : RS) (si : Nat → Option Nat) (lp : List Nat) (pf : Nat → RS) (S : RS) (i0 : Int32) (i1 : Int32) (R : RS → (Nat → Option Nat) → RS → RS → RS → RS → RS → (Nat → Option Nat) → List Nat → (Nat → RS) → RS → Prop) : Prop :=
  fX5_wants N sb lw sp lp pf i0 i1 (fun r1 => fX6_wants N S i0 i1 (fun r2 => (r1 = r2 ∧ R sb lw st sp sd ss sy si lp pf S)))
set_option maxRecDepth 100000 in
set_option maxHeartbeats 4000000 in
theorem wL_29 {x : Nx} {g : Gx} {y : MethodName} {ret : Option FieldType} {a : Nat → Nat → Nat} {e : Nat → Nat} {sb : RS} {lw : Nat → Option Nat} {st : RS} {sp : RS} {sd : RS} {ss : RS} {sy : RS} {si : Nat → Option Nat} {lp : List Nat} {pf : Nat → RS} {S : RS} {N cells slots j b L : Nat} {f : Nat → Int32} {R : RS → (Nat → Option Nat) → RS → RS → RS → RS → RS → (Nat → Option Nat) → List Nat → (Nat → RS) → RS → Prop} (C : Cx x g cL_law RL wsL_law room_1 y ret 4) (hN : NW (xs x)) (hX : va_X b L f (xs x) (xs x).heap) (hbl : b < (xs x).heap.size) (hbA : ¬ xA x b) (hL : L ≤ 2560) (hj : j + 5 ≤ L) (hc : cells + 1 ≤ 600000) (hs : slots + 11 ≤ 7302250) (hR : ∀ sb lw st sp sd ss sy si lp pf S, R sb lw st sp sd ss sy si lp pf S → St x (cells + 1) (slots + 11) (lawW g a e sb lw st sp sd ss sy si lp pf S) [(0, .ref b), (1, .ref (a 0 50)), (2, .ref (e 50)), (3, .int (nI j))] [] 1025) (h : cL_29 N sb lw st sp sd ss sy si lp pf S (f (nI j + 1).toNatClampNeg) (f (nI j + 2).toNatClampNeg) R) : St x cells slots (lawW g a e sb lw st sp sd ss sy si lp pf S) [(0, .ref b), (1, .ref (a 0 50)), (2, .ref (e 50)), (3, .int (nI j))] [] 969 := by
  unfold cL_29 at h
  refine r_aload_n C dL_law_969 rfl ?_
  refine r_aload_n C dL_law_970 rfl ?_
  refine r_iload_n C dL_law_971 rfl ?_
  refine r_iconst (v := 1) C dL_law_972 (by decide) ?_
  refine r_iadd C dL_law_973 ?_
  refine r_sld C hX hbl hbA (vp_in_off hj (c := 1) (by decide) hL) dL_law_974 ?_
  refine r_aload_n C dL_law_975 rfl ?_
  refine r_iload_n C dL_law_976 rfl ?_
  refine r_iconst (v := 2) C dL_law_977 (by decide) ?_
  refine r_iadd C dL_law_978 ?_
  refine r_sld C hX hbl hbA (vp_in_off hj (c := 2) (by decide) hL) dL_law_979 ?_
  refine callR_I C (run_V (As := [.int (f (nI j + 1).toNatClampNeg), .int (f (nI j + 2).toNatClampNeg)]) (rest := []) (ci := 5) C hN (tX5_wants _ g a sb lw st sp sd ss sy si lp pf N (f (nI j + 1).toNatClampNeg) (f (nI j + 2).toNatClampNeg) _ h) gL_law_X5_wants rfl dsX5_wants rfl rfl ⟨(Nat.le_of_ble_eq_true rfl), (Nat.le_of_ble_eq_true rfl)⟩ rfl (List.mem_append_left _ (List.mem_of_getElem? (i := 0) rfl)) rfl (Nat.le_of_ble_eq_true rfl) dL_law_980 ⟨by show _ ≤ 600000; omega, by show _ ≤ 7302250; omega⟩) (List.sublist_append_left _ _) (fun _ => rfl) (fun r1 _ h => ?_)
  refine r_aload_n C dL_law_983 rfl ?_
  refine r_aload_n C dL_law_984 rfl ?_
  refine r_iload_n C dL_law_985 rfl ?_
  refine r_iconst (v := 1) C dL_law_986 (by decide) ?_
  refine r_iadd C dL_law_987 ?_
  refine r_sld C hX hbl hbA (vp_in_off hj (c := 1) (by decide) hL) dL_law_988 ?_
  refine r_aload_n C dL_law_989 rfl ?_
  refine r_iload_n C dL_law_990 rfl ?_
  refine r_iconst (v := 2) C dL_law_991 (by decide) ?_
  refine r_iadd C dL_law_992 ?_
  refine r_sld C hX hbl hbA (vp_in_off hj (c := 2) (by decide) hL) dL_law_993 ?_
  refine callR_I C (run_V (As := [.int (f (nI j + 1).toNatClampNeg), .int (f (nI j + 2).toNatClampNeg)]) (rest := [.int r1]) (ci := 6) C hN (tX6_wants _ g e S N (f (nI j + 1).toNatClampNeg) (f (nI j + 2).toNatClampNeg) _ h) gL_law_X6_wants rfl dsX6_wants rfl rfl ⟨(Nat.le_of_ble_eq_true rfl), (Nat.le_of_ble_eq_true rfl)⟩ rfl (List.mem_append_right _ (List.mem_of_getElem? (i := 0) rfl)) rfl (Nat.le_of_ble_eq_true rfl) dL_law_994 ⟨by show _ ≤ 600000; omega, by show _ ≤ 7302250; omega⟩) (List.sublist_append_right _ _) (fun _ => rfl) (fun r2 _ h => ?_)
  obtain ⟨he, h⟩ := h
  refine r_icmp_eq (tgt := 1025) C dL_law_997 (by decide) (fun _ => ?_) (fun c => absurd he c)
  exact r_widen (by omega) (by omega) (hR sb lw st sp sd ss sy si lp pf S h)
def cL_30 (N : Nat) (sb : RS) (lw : Nat → Option Nat) (st : RS) (sp : RS) (sd : RS) (ss : RS) (sy : RS) (si : Nat → Option Nat) (lp : List Nat) (pf : Nat → RS) (S : RS) (i0 : Int32) (R : RS → (Nat → Option Nat) → RS → RS → RS → RS → RS → (Nat → Option Nat) → List Nat → (Nat → RS) → RS → Prop) : Prop :=
  fX5_count N sb lw st sp lp pf i0 (fun r1 => fX6_count N S i0 (fun r2 => (r1 = r2 ∧ R sb lw st sp sd ss sy si lp pf S)))
set_option maxRecDepth 100000 in
set_option maxHeartbeats 4000000 in
theorem wL_30 {x : Nx} {g : Gx} {y : MethodName} {ret : Option FieldType} {a : Nat → Nat → Nat} {e : Nat → Nat} {sb : RS} {lw : Nat → Option Nat} {st : RS} {sp : RS} {sd : RS} {ss : RS} {sy : RS} {si : Nat → Option Nat} {lp : List Nat} {pf : Nat → RS} {S : RS} {N cells slots j b L : Nat} {f : Nat → Int32} {R : RS → (Nat → Option Nat) → RS → RS → RS → RS → RS → (Nat → Option Nat) → List Nat → (Nat → RS) → RS → Prop} (C : Cx x g cL_law RL wsL_law room_1 y ret 4) (hN : NW (xs x)) (hX : va_X b L f (xs x) (xs x).heap) (hbl : b < (xs x).heap.size) (hbA : ¬ xA x b) (hL : L ≤ 2560) (hj : j + 5 ≤ L) (hc : cells + 1 ≤ 600000) (hs : slots + 11 ≤ 7302250) (hR : ∀ sb lw st sp sd ss sy si lp pf S, R sb lw st sp sd ss sy si lp pf S → St x (cells + 1) (slots + 11) (lawW g a e sb lw st sp sd ss sy si lp pf S) [(0, .ref b), (1, .ref (a 0 50)), (2, .ref (e 50)), (3, .int (nI j))] [] 1025) (h : cL_30 N sb lw st sp sd ss sy si lp pf S (f (nI j + 1).toNatClampNeg) R) : St x cells slots (lawW g a e sb lw st sp sd ss sy si lp pf S) [(0, .ref b), (1, .ref (a 0 50)), (2, .ref (e 50)), (3, .int (nI j))] [] 1002 := by
  unfold cL_30 at h
  refine r_aload_n C dL_law_1002 rfl ?_
  refine r_aload_n C dL_law_1003 rfl ?_
  refine r_iload_n C dL_law_1004 rfl ?_
  refine r_iconst (v := 1) C dL_law_1005 (by decide) ?_
  refine r_iadd C dL_law_1006 ?_
  refine r_sld C hX hbl hbA (vp_in_off hj (c := 1) (by decide) hL) dL_law_1007 ?_
  refine callR_I C (run_V (As := [.int (f (nI j + 1).toNatClampNeg)]) (rest := []) (ci := 5) C hN (tX5_count _ g a sb lw st sp sd ss sy si lp pf N (f (nI j + 1).toNatClampNeg) _ h) gL_law_X5_count rfl dsX5_count rfl rfl ⟨(Nat.le_of_ble_eq_true rfl), (Nat.le_of_ble_eq_true rfl)⟩ rfl (List.mem_append_left _ (List.mem_of_getElem? (i := 0) rfl)) rfl (Nat.le_of_ble_eq_true rfl) dL_law_1008 ⟨by show _ ≤ 600000; omega, by show _ ≤ 7302250; omega⟩) (List.sublist_append_left _ _) (fun _ => rfl) (fun r1 _ h => ?_)
  refine r_aload_n C dL_law_1011 rfl ?_
  refine r_aload_n C dL_law_1012 rfl ?_
  refine r_iload_n C dL_law_1013 rfl ?_
  refine r_iconst (v := 1) C dL_law_1014 (by decide) ?_
  refine r_iadd C dL_law_1015 ?_
  refine r_sld C hX hbl hbA (vp_in_off hj (c := 1) (by decide) hL) dL_law_1016 ?_
  refine callR_I C (run_V (As := [.int (f (nI j + 1).toNatClampNeg)]) (rest := [.int r1]) (ci := 6) C hN (tX6_count _ g e S N (f (nI j + 1).toNatClampNeg) _ h) gL_law_X6_count rfl dsX6_count rfl rfl ⟨(Nat.le_of_ble_eq_true rfl), (Nat.le_of_ble_eq_true rfl)⟩ rfl (List.mem_append_right _ (List.mem_of_getElem? (i := 0) rfl)) rfl (Nat.le_of_ble_eq_true rfl) dL_law_1017 ⟨by show _ ≤ 600000; omega, by show _ ≤ 7302250; omega⟩) (List.sublist_append_right _ _) (fun _ => rfl) (fun r2 _ h => ?_)
  obtain ⟨he, h⟩ := h
  refine r_icmp_eq (tgt := 1025) C dL_law_1020 (by decide) (fun _ => ?_) (fun c => absurd he c)
  exact r_widen (by omega) (by omega) (hR sb lw st sp sd ss sy si lp pf S h)
def cLall (N : Nat) (sb : RS) (lw : Nat → Option Nat) (st : RS) (sp : RS) (sd : RS) (ss : RS) (sy : RS) (si : Nat → Option Nat) (lp : List Nat) (pf : Nat → RS) (S : RS) (R : RS → (Nat → Option Nat) → RS → RS → RS → RS → RS → (Nat → Option Nat) → List Nat → (Nat → RS) → RS → Prop) : Prop :=
  (∀ i0 : Int32, cL_0 N sb lw st sp sd ss sy si lp pf S i0 R) ∧ (∀ i0 i1 : Int32, cL_1 N sb lw st sp sd ss sy si lp pf S i0 i1 R) ∧ (∀ i0 i1 i2 : Int32, cL_2 N sb lw st sp sd ss sy si lp pf S i0 i1 i2 R) ∧ (∀ i0 : Int32, cL_3 N sb lw st sp sd ss sy si lp pf S i0 R) ∧ (∀ i0 i1 : Int32, cL_4 N sb lw st sp sd ss sy si lp pf S i0 i1 R) ∧ (∀ i0 i1 i2 i3 : Int32, cL_5 N sb lw st sp sd ss sy si lp pf S i0 i1 i2 i3 R) ∧ (∀ i0 i1 i2 : Int32, cL_6 N sb lw st sp sd ss sy si lp pf S i0 i1 i2 R) ∧ (∀ i0 : Int32, cL_7 N sb lw st sp sd ss sy si lp pf S i0 R) ∧ (∀ i0 : Int32, cL_8 N sb lw st sp sd ss sy si lp pf S i0 R) ∧ (∀ i0 : Int32, cL_9 N sb lw st sp sd ss sy si lp pf S i0 R) ∧ (∀ i0 : Int32, cL_10 N sb lw st sp sd ss sy si lp pf S i0 R) ∧ (∀ i0 : Int32, cL_11 N sb lw st sp sd ss sy si lp pf S i0 R) ∧ (∀ i0 : Int32, cL_12 N sb lw st sp sd ss sy si lp pf S i0 R) ∧ (∀ i0 : Int32, cL_13 N sb lw st sp sd ss sy si lp pf S i0 R) ∧ (∀ i0 : Int32, cL_14 N sb lw st sp sd ss sy si lp pf S i0 R) ∧ (∀ i0 : Int32, cL_15 N sb lw st sp sd ss sy si lp pf S i0 R) ∧ (∀ i0 i1 : Int32, cL_16 N sb lw st sp sd ss sy si lp pf S i0 i1 R) ∧ (∀ i0 : Int32, cL_17 N sb lw st sp sd ss sy si lp pf S i0 R) ∧ (∀ i0 : Int32, cL_18 N sb lw st sp sd ss sy si lp pf S i0 R) ∧ (∀ i0 i1 : Int32, cL_19 N sb lw st sp sd ss sy si lp pf S i0 i1 R) ∧ (cL_20 N sb lw st sp sd ss sy si lp pf S R) ∧ (∀ i0 : Int32, cL_21 N sb lw st sp sd ss sy si lp pf S i0 R) ∧ (∀ i0 : Int32, cL_22 N sb lw st sp sd ss sy si lp pf S i0 R) ∧ (cL_23 N sb lw st sp sd ss sy si lp pf S R) ∧ (∀ i0 i1 i2 : Int32, cL_24 N sb lw st sp sd ss sy si lp pf S i0 i1 i2 R) ∧ (∀ i0 i1 i2 : Int32, cL_25 N sb lw st sp sd ss sy si lp pf S i0 i1 i2 R) ∧ (∀ i0 : Int32, cL_26 N sb lw st sp sd ss sy si lp pf S i0 R) ∧ (∀ i0 : Int32, cL_27 N sb lw st sp sd ss sy si lp pf S i0 R) ∧ (∀ i0 : Int32, cL_28 N sb lw st sp sd ss sy si lp pf S i0 R) ∧ (∀ i0 i1 : Int32, cL_29 N sb lw st sp sd ss sy si lp pf S i0 i1 R) ∧ (∀ i0 : Int32, cL_30 N sb lw st sp sd ss sy si lp pf S i0 R)
set_option maxRecDepth 100000 in
set_option maxHeartbeats 4000000 in
theorem law_loop {x : Nx} {g : Gx} {y : MethodName} {ret : Option FieldType} {a : Nat → Nat → Nat} {e : Nat → Nat} {N b L : Nat} {f : Nat → Int32} {R : RS → (Nat → Option Nat) → RS → RS → RS → RS → RS → (Nat → Option Nat) → List Nat → (Nat → RS) → RS → Prop} (C : Cx x g cL_law RL wsL_law room_1 y ret 4) (hN : NW (xs x)) (hX : va_X b L f (xs x) (xs x).heap) (hbl : b < (xs x).heap.size) (hbA : ¬ xA x b) (hL : L ≤ 2560) (hst : ∀ (sb : RS) (lw : Nat → Option Nat) (st : RS) (sp : RS) (sd : RS) (ss : RS) (sy : RS) (si : Nat → Option Nat) (lp : List Nat) (pf : Nat → RS) (S : RS), R sb lw st sp sd ss sy si lp pf S → cLall N sb lw st sp sd ss sy si lp pf S R) (hend : ∀ (ws : va_W) (lv : List (Nat × Value)) (cells slots : Nat), cells ≤ 600000 → slots ≤ 7302250 → St x cells slots ws lv [.int 1] 1032) : ∀ (n j cells slots : Nat) (sb : RS) (lw : Nat → Option Nat) (st : RS) (sp : RS) (sd : RS) (ss : RS) (sy : RS) (si : Nat → Option Nat) (lp : List Nat) (pf : Nat → RS) (S : RS), j ≤ L + 5 → L + 1 ≤ j + 5 * n → cells + n ≤ 600000 → slots + 11 * n ≤ 7302250 → R sb lw st sp sd ss sy si lp pf S → St x cells slots (lawW g a e sb lw st sp sd ss sy si lp pf S) [(0, .ref b), (1, .ref (a 0 50)), (2, .ref (e 50)), (3, .int (nI j))] [] 18 := by
  intro n
  induction n with
  | zero =>
    intro j cells slots sb lw st sp sd ss sy si lp pf S hjL hn hc hs hr
    have hcN : cells ≤ 600000 := by omega
    have hsN : slots ≤ 7302250 := by omega
    refine r_iload_n C dL_law_18 rfl ?_
    refine r_aload_n C dL_law_19 rfl ?_
    refine r_slen C hX hbl hbA dL_law_20 ?_
    refine r_iconst (v := 5) C dL_law_21 (by decide) ?_
    refine r_isub C dL_law_22 ?_
    refine r_icmp_gt (tgt := 1031) C dL_law_23 (by decide) (fun c => ?_) (fun c => ?_)
    · refine r_iconst (v := 1) C dL_law_1031 (by decide) ?_
      exact hend _ _ _ _ hcN hsN
    · exact absurd (by
        refine Int32.lt_iff_toInt_lt.mpr ?_
        show (nI L - nI 5).toInt < (nI j).toInt
        rw [pk_sub_toInt (by omega) (by omega), nI_toInt (by omega)]
        omega) c
  | succ n ih =>
    intro j cells slots sb lw st sp sd ss sy si lp pf S hjL hn hc hs hr
    have hcN : cells ≤ 600000 := by omega
    have hsN : slots ≤ 7302250 := by omega
    refine r_iload_n C dL_law_18 rfl ?_
    refine r_aload_n C dL_law_19 rfl ?_
    refine r_slen C hX hbl hbA dL_law_20 ?_
    refine r_iconst (v := 5) C dL_law_21 (by decide) ?_
    refine r_isub C dL_law_22 ?_
    refine r_icmp_gt (tgt := 1031) C dL_law_23 (by decide) (fun c => ?_) (fun c => ?_)
    · refine r_iconst (v := 1) C dL_law_1031 (by decide) ?_
      exact hend _ _ _ _ hcN hsN
    · have hj : j + 5 ≤ L := by
        rcases Nat.lt_or_ge L (j + 5) with q | q
        · exact absurd (by
            refine Int32.lt_iff_toInt_lt.mpr ?_
            show (nI L - nI 5).toInt < (nI j).toInt
            rw [pk_sub_toInt (by omega) (by omega), nI_toInt (by omega)]
            omega) c
        · exact q
      refine r_aload_n C dL_law_26 rfl ?_
      refine r_iload_n C dL_law_27 rfl ?_
      refine r_sld C hX hbl hbA (vp_in_nI (by omega) (by omega)) dL_law_28 ?_
      refine r_bipush (v := 31) C dL_law_29 (by decide) ?_
      refine r_iand C dL_law_31 ?_
      have hnx : ∀ sb lw st sp sd ss sy si lp pf S, R sb lw st sp sd ss sy si lp pf S → St x (cells + 1) (slots + 11) (lawW g a e sb lw st sp sd ss sy si lp pf S) [(0, .ref b), (1, .ref (a 0 50)), (2, .ref (e 50)), (3, .int (nI j))] [] 1025 := by
        intro sb_ lw_ st_ sp_ sd_ ss_ sy_ si_ lp_ pf_ S_ hr
        obtain ⟨w, ew⟩ : ∃ z : Int32, z = nI (j + 5) := ⟨_, rfl⟩
        refine r_iinc (v := w) (lv' := [(0, .ref b), (1, .ref (a 0 50)), (2, .ref (e 50)), (3, .int w)]) C dL_law_1025 rfl (by rw [ew]; exact nI_add j 5) [some 0, some 1, some 2, none] (by decide) rfl rfl ?_
        refine r_goto (tgt := 18) C dL_law_1028 (by decide) ?_
        rw [ew]
        exact ih (j + 5) (cells + 1) (slots + 11) sb_ lw_ st_ sp_ sd_ ss_ sy_ si_ lp_ pf_ S_ (by omega) (by omega) (by omega) (by omega) hr
      have h := hst _ _ _ _ _ _ _ _ _ _ _ hr
      rcases sw_cases 30 (f (nI j).toNatClampNeg &&& 31) with hs0 | ⟨k, hk, hs0⟩
      · refine r_tableOut (tgt := 1025) C dL_law_32 hs0 (by decide) ?_
        exact r_widen (by omega) (by omega) (hnx _ _ _ _ _ _ _ _ _ _ _ hr)
      · match k, hk, hs0 with
        | 0, _, hs0 =>
          rw [hs0]
          refine r_tableIn (tgt := 172) C dL_law_32 (by decide) (by decide) (off := 140) (by decide) (by decide) ?_
          exact wL_0 C hN hX hbl hbA hL hj (by omega) (by omega) hnx (h.1 _)
        | 1, _, hs0 =>
          rw [hs0]
          refine r_tableIn (tgt := 195) C dL_law_32 (by decide) (by decide) (off := 163) (by decide) (by decide) ?_
          exact wL_1 C hN hX hbl hbA hL hj (by omega) (by omega) hnx (h.2.1 _ _)
        | 2, _, hs0 =>
          rw [hs0]
          refine r_tableIn (tgt := 228) C dL_law_32 (by decide) (by decide) (off := 196) (by decide) (by decide) ?_
          exact wL_2 C hN hX hbl hbA hL hj (by omega) (by omega) hnx (h.2.2.1 _ _ _)
        | 3, _, hs0 =>
          rw [hs0]
          refine r_tableIn (tgt := 271) C dL_law_32 (by decide) (by decide) (off := 239) (by decide) (by decide) ?_
          exact wL_3 C hN hX hbl hbA hL hj (by omega) (by omega) hnx (h.2.2.2.1 _)
        | 4, _, hs0 =>
          rw [hs0]
          refine r_tableIn (tgt := 294) C dL_law_32 (by decide) (by decide) (off := 262) (by decide) (by decide) ?_
          exact wL_4 C hN hX hbl hbA hL hj (by omega) (by omega) hnx (h.2.2.2.2.1 _ _)
        | 5, _, hs0 =>
          rw [hs0]
          refine r_tableIn (tgt := 327) C dL_law_32 (by decide) (by decide) (off := 295) (by decide) (by decide) ?_
          exact wL_5 C hN hX hbl hbA hL hj (by omega) (by omega) hnx (h.2.2.2.2.2.1 _ _ _ _)
        | 6, _, hs0 =>
          rw [hs0]
          refine r_tableIn (tgt := 380) C dL_law_32 (by decide) (by decide) (off := 348) (by decide) (by decide) ?_
          exact wL_6 C hN hX hbl hbA hL hj (by omega) (by omega) hnx (h.2.2.2.2.2.2.1 _ _ _)
        | 7, _, hs0 =>
          rw [hs0]
          refine r_tableIn (tgt := 423) C dL_law_32 (by decide) (by decide) (off := 391) (by decide) (by decide) ?_
          exact wL_7 C hN hX hbl hbA hL hj (by omega) (by omega) hnx (h.2.2.2.2.2.2.2.1 _)
        | 8, _, hs0 =>
          rw [hs0]
          refine r_tableIn (tgt := 446) C dL_law_32 (by decide) (by decide) (off := 414) (by decide) (by decide) ?_
          exact wL_8 C hN hX hbl hbA hL hj (by omega) (by omega) hnx (h.2.2.2.2.2.2.2.2.1 _)
        | 9, _, hs0 =>
          rw [hs0]
          refine r_tableIn (tgt := 469) C dL_law_32 (by decide) (by decide) (off := 437) (by decide) (by decide) ?_
          exact wL_9 C hN hX hbl hbA hL hj (by omega) (by omega) hnx (h.2.2.2.2.2.2.2.2.2.1 _)
        | 10, _, hs0 =>
          rw [hs0]
          refine r_tableIn (tgt := 492) C dL_law_32 (by decide) (by decide) (off := 460) (by decide) (by decide) ?_
          exact wL_10 C hN hX hbl hbA hL hj (by omega) (by omega) hnx (h.2.2.2.2.2.2.2.2.2.2.1 _)
        | 11, _, hs0 =>
          rw [hs0]
          refine r_tableIn (tgt := 515) C dL_law_32 (by decide) (by decide) (off := 483) (by decide) (by decide) ?_
          exact wL_11 C hN hX hbl hbA hL hj (by omega) (by omega) hnx (h.2.2.2.2.2.2.2.2.2.2.2.1 _)
        | 12, _, hs0 =>
          rw [hs0]
          refine r_tableIn (tgt := 538) C dL_law_32 (by decide) (by decide) (off := 506) (by decide) (by decide) ?_
          exact wL_12 C hN hX hbl hbA hL hj (by omega) (by omega) hnx (h.2.2.2.2.2.2.2.2.2.2.2.2.1 _)
        | 13, _, hs0 =>
          rw [hs0]
          refine r_tableIn (tgt := 561) C dL_law_32 (by decide) (by decide) (off := 529) (by decide) (by decide) ?_
          exact wL_13 C hN hX hbl hbA hL hj (by omega) (by omega) hnx (h.2.2.2.2.2.2.2.2.2.2.2.2.2.1 _)
        | 14, _, hs0 =>
          rw [hs0]
          refine r_tableIn (tgt := 584) C dL_law_32 (by decide) (by decide) (off := 552) (by decide) (by decide) ?_
          exact wL_14 C hN hX hbl hbA hL hj (by omega) (by omega) hnx (h.2.2.2.2.2.2.2.2.2.2.2.2.2.2.1 _)
        | 15, _, hs0 =>
          rw [hs0]
          refine r_tableIn (tgt := 607) C dL_law_32 (by decide) (by decide) (off := 575) (by decide) (by decide) ?_
          exact wL_15 C hN hX hbl hbA hL hj (by omega) (by omega) hnx (h.2.2.2.2.2.2.2.2.2.2.2.2.2.2.2.1 _)
        | 16, _, hs0 =>
          rw [hs0]
          refine r_tableIn (tgt := 630) C dL_law_32 (by decide) (by decide) (off := 598) (by decide) (by decide) ?_
          exact wL_16 C hN hX hbl hbA hL hj (by omega) (by omega) hnx (h.2.2.2.2.2.2.2.2.2.2.2.2.2.2.2.2.1 _ _)
        | 17, _, hs0 =>
          rw [hs0]
          refine r_tableIn (tgt := 663) C dL_law_32 (by decide) (by decide) (off := 631) (by decide) (by decide) ?_
          exact wL_17 C hN hX hbl hbA hL hj (by omega) (by omega) hnx (h.2.2.2.2.2.2.2.2.2.2.2.2.2.2.2.2.2.1 _)
        | 18, _, hs0 =>
          rw [hs0]
          refine r_tableIn (tgt := 686) C dL_law_32 (by decide) (by decide) (off := 654) (by decide) (by decide) ?_
          exact wL_18 C hN hX hbl hbA hL hj (by omega) (by omega) hnx (h.2.2.2.2.2.2.2.2.2.2.2.2.2.2.2.2.2.2.1 _)
        | 19, _, hs0 =>
          rw [hs0]
          refine r_tableIn (tgt := 709) C dL_law_32 (by decide) (by decide) (off := 677) (by decide) (by decide) ?_
          exact wL_19 C hN hX hbl hbA hL hj (by omega) (by omega) hnx (h.2.2.2.2.2.2.2.2.2.2.2.2.2.2.2.2.2.2.2.1 _ _)
        | 20, _, hs0 =>
          rw [hs0]
          refine r_tableIn (tgt := 742) C dL_law_32 (by decide) (by decide) (off := 710) (by decide) (by decide) ?_
          exact wL_20 C hN hX hbl hbA hL hj (by omega) (by omega) hnx (h.2.2.2.2.2.2.2.2.2.2.2.2.2.2.2.2.2.2.2.2.1)
        | 21, _, hs0 =>
          rw [hs0]
          refine r_tableIn (tgt := 755) C dL_law_32 (by decide) (by decide) (off := 723) (by decide) (by decide) ?_
          exact wL_21 C hN hX hbl hbA hL hj (by omega) (by omega) hnx (h.2.2.2.2.2.2.2.2.2.2.2.2.2.2.2.2.2.2.2.2.2.1 _)
        | 22, _, hs0 =>
          rw [hs0]
          refine r_tableIn (tgt := 778) C dL_law_32 (by decide) (by decide) (off := 746) (by decide) (by decide) ?_
          exact wL_22 C hN hX hbl hbA hL hj (by omega) (by omega) hnx (h.2.2.2.2.2.2.2.2.2.2.2.2.2.2.2.2.2.2.2.2.2.2.1 _)
        | 23, _, hs0 =>
          rw [hs0]
          refine r_tableIn (tgt := 801) C dL_law_32 (by decide) (by decide) (off := 769) (by decide) (by decide) ?_
          exact wL_23 C hN hX hbl hbA hL hj (by omega) (by omega) hnx (h.2.2.2.2.2.2.2.2.2.2.2.2.2.2.2.2.2.2.2.2.2.2.2.1)
        | 24, _, hs0 =>
          rw [hs0]
          refine r_tableIn (tgt := 814) C dL_law_32 (by decide) (by decide) (off := 782) (by decide) (by decide) ?_
          exact wL_24 C hN hX hbl hbA hL hj (by omega) (by omega) hnx (h.2.2.2.2.2.2.2.2.2.2.2.2.2.2.2.2.2.2.2.2.2.2.2.2.1 _ _ _)
        | 25, _, hs0 =>
          rw [hs0]
          refine r_tableIn (tgt := 857) C dL_law_32 (by decide) (by decide) (off := 825) (by decide) (by decide) ?_
          exact wL_25 C hN hX hbl hbA hL hj (by omega) (by omega) hnx (h.2.2.2.2.2.2.2.2.2.2.2.2.2.2.2.2.2.2.2.2.2.2.2.2.2.1 _ _ _)
        | 26, _, hs0 =>
          rw [hs0]
          refine r_tableIn (tgt := 900) C dL_law_32 (by decide) (by decide) (off := 868) (by decide) (by decide) ?_
          exact wL_26 C hN hX hbl hbA hL hj (by omega) (by omega) hnx (h.2.2.2.2.2.2.2.2.2.2.2.2.2.2.2.2.2.2.2.2.2.2.2.2.2.2.1 _)
        | 27, _, hs0 =>
          rw [hs0]
          refine r_tableIn (tgt := 923) C dL_law_32 (by decide) (by decide) (off := 891) (by decide) (by decide) ?_
          exact wL_27 C hN hX hbl hbA hL hj (by omega) (by omega) hnx (h.2.2.2.2.2.2.2.2.2.2.2.2.2.2.2.2.2.2.2.2.2.2.2.2.2.2.2.1 _)
        | 28, _, hs0 =>
          rw [hs0]
          refine r_tableIn (tgt := 946) C dL_law_32 (by decide) (by decide) (off := 914) (by decide) (by decide) ?_
          exact wL_28 C hN hX hbl hbA hL hj (by omega) (by omega) hnx (h.2.2.2.2.2.2.2.2.2.2.2.2.2.2.2.2.2.2.2.2.2.2.2.2.2.2.2.2.1 _)
        | 29, _, hs0 =>
          rw [hs0]
          refine r_tableIn (tgt := 969) C dL_law_32 (by decide) (by decide) (off := 937) (by decide) (by decide) ?_
          exact wL_29 C hN hX hbl hbA hL hj (by omega) (by omega) hnx (h.2.2.2.2.2.2.2.2.2.2.2.2.2.2.2.2.2.2.2.2.2.2.2.2.2.2.2.2.2.1 _ _)
        | 30, _, hs0 =>
          rw [hs0]
          refine r_tableIn (tgt := 1002) C dL_law_32 (by decide) (by decide) (off := 970) (by decide) (by decide) ?_
          exact wL_30 C hN hX hbl hbA hL hj (by omega) (by omega) hnx (h.2.2.2.2.2.2.2.2.2.2.2.2.2.2.2.2.2.2.2.2.2.2.2.2.2.2.2.2.2.2 _)
        | k + 31, hk, _ => exact absurd hk (by omega)
