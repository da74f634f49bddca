/-! making objects and rows -/
def zRS : RS := (fun _ => 0, fun _ _ => 0, fun _ => 0, fun _ _ => 0)
def adr (l : List (Nat × Nat)) (k : Nat) : Nat := match l with
  | [] => 0
  | q :: l => cond (Nat.beq q.1 k) q.2 (adr l k)
section ALLOC
variable {x : Nx} {g : Gx} {cc : ByteArray} {own : String} {Ts : List Cond} {rm : Room} {y : MethodName} {ret : Option FieldType} {nL cells slots pc : Nat} {ws : va_W} {lv : List (Nat × Value)} {st : List Value}
theorem r_perm {ws' : va_W} (hp : ws.Perm ws') (kk : St x cells slots ws' lv st pc) : St x cells slots ws lv st pc := fun H locs ls hP hD hS hl => kk H locs ls (vP_perm hp hP) (vD_perm hp hD) hS hl
theorem r_newobj (C : Cx x g cc own Ts rm y ret nL) {cn : String} {T : u_T} {N ci index : Nat} (hin : ∀ w ∈ u_ws cn T N, w ∈ Ts) (ty : Nat → FieldType) (hty : ∀ k, k < N → parseFieldDescriptor (T k).2.2.1 = some (ty k)) (hcl : Cond.classLink own index cn ∈ Ts) (hinst : Cond.instantiable cn N ∈ Ts) (hini : Cond.initialized cn ∈ Ts) (hc : vwCl[ci]? = some (cn, T, N)) {fs : List Value} (hfs : ∀ j, j < N → defaultValue (ty j) = vp_V fs j) (hcells : cells + 1 ≤ rm.cells) (hslots : slots + N ≤ rm.slots) (hd : decode cc pc = .ok (.new index, 3)) (kk : ∀ q : Nat, St x (cells + 1) (slots + N) (ws ++ [(q, .inr (ci, fs))]) lv (.ref q :: st) (pc + 3)) : St x cells slots ws lv st pc := fun H locs ls hP hD hS hl => by
  obtain ⟨C1, C2, C3, C4, C5, C6, C7, C8, C9⟩ := C
  subst C8
  exact va_new C1.1 C1.2.1 C1.2.2.2.2 hin ty hty C1.2.2.2.1 (C1.2.2.2.2 _ hcl) (C1.2.2.2.2 _ hinst) (C1.2.2.2.2 _ hini) C2 hP hD hS C3 hc hfs (by rw [C4]; exact hcells) (by rw [C4]; exact hslots) hd (fun q H1 hP1 hD1 hS1 => kk q H1 locs ls hP1 hD1 hS1 hl)
theorem law_def : ∀ j, j < 11 → defaultValue (tyX1 j) = vp_V [.int 0, .int 0, .long 0, .long 0, .int 0, .int 0, .int 0, .int 0, .int 0, .int 0, .int 0] j := by
  intro j hj
  rcases (show j = 0 ∨ j = 1 ∨ j = 2 ∨ j = 3 ∨ j = 4 ∨ j = 5 ∨ j = 6 ∨ j = 7 ∨ j = 8 ∨ j = 9 ∨ j = 10 by omega) with rfl | rfl | rfl | rfl | rfl | rfl | rfl | rfl | rfl | rfl | rfl <;> rfl
theorem r_newLaw (C : Cx x g cc own Ts rm y ret nL) {X : va_W} {lp : List Nat} {pf : Nat → RS} {index : Nat} (hin : ∀ w ∈ u_ws RX1 TX1 11, w ∈ Ts) (hcl : Cond.classLink own index RX1 ∈ Ts) (hinst : Cond.instantiable RX1 11 ∈ Ts) (hini : Cond.initialized RX1 ∈ Ts) (hcells : cells + 1 ≤ rm.cells) (hslots : slots + 11 ≤ rm.slots) (hd : decode cc pc = .ok (.new index, 3)) (kk : ∀ q : Nat, q ∉ lp → St x (cells + 1) (slots + 11) (X ++ plW (lp ++ [q]) (up pf q zRS)) lv (.ref q :: st) (pc + 3)) : St x cells slots (X ++ plW lp pf) lv st pc :=
  r_newobj C hin tyX1 tyX1_ok hcl hinst hini (ci := 1) rfl law_def hcells hslots hd (fun q => r_pool (L := zRS) (kk q))
theorem pl_app {lp : List Nat} {pf : Nat → RS} {q : Nat} {L : RS} (h : q ∉ lp) : plW (lp ++ [q]) (up pf q L) = plW lp pf ++ [(q, lawE L)] := by
  refine ((va_pl_push (f := fun q => lawE (pf q)) (e := lawE L) h).trans (va_pl_congr fun b => ?_)).symm
  by_cases hb : b = q
  · subst hb
    simp [va_up, up_same]
  · simp only [va_up, if_neg hb, up_ne hb]
theorem sp_init {a : Nat → Nat → Nat} {sb st sp sd ss sy : RS} {lw si : Nat → Option Nat} {lp : List Nat} {pf : Nat → RS} {q : Nat} {L : RS} (h : q ∉ lp) : (sysW g a sb lw st sp sd ss sy si (lp ++ [q]) (up pf q L)).Perm (([(q, lawE L)] ++ tW g (a 1) st) ++ R1 g a sb lw sp sd ss sy si lp pf) := by
  have e : sysW g a sb lw st sp sd ss sy si (lp ++ [q]) (up pf q L) = sysW g a sb lw st sp sd ss sy si lp pf ++ [(q, lawE L)] := by
    unfold sysW
    rw [pl_app h, List.append_assoc]
  rw [e]
  refine (List.perm_append_comm.trans ?_)
  rw [List.append_assoc]
  exact List.Perm.append_left _ sp1
theorem ra_int {U : State} {cA cB : ClassId} (t : FieldType) (ht : ∀ C, t ≠ .object C) (h1 : va_RA U cA t) (h2 : va_RA U cB t) : cA = cB := by
  cases t with
  | object C => exact absurd rfl (ht C)
  | _ =>
    simp only [va_RA] at h1 h2
    rw [h1] at h2
    exact Option.some.inj h2
theorem r_newa (C : Cx x g cc own Ts rm y ret nL) {atype : ArrayType} {ty : FieldType} (k : Nat) (hty : newarray.typeOf atype = ty) (hno : ∀ C, ty ≠ .object C) (hk : (kty g)[k]? = some (g.2 k, ty)) (harr : Cond.arrayClass ty ∈ Ts) {n : Int32} {N' : Nat} {a0 : vp_A} (ha : ∀ cA : ClassId, vp_cell cA a0 = arrV cA N' (fun _ => defaultValue ty)) (hn : ¬ n < 0) (hN : n.toNatClampNeg = N') (hbytes : N' * componentBytes ty ≤ 536870912) (hcells : cells + 1 ≤ rm.cells) (hslots : slots + N' ≤ rm.slots) (hd : decode cc pc = .ok (.newarray atype, 2)) (kk : ∀ q : Nat, St x (cells + 1) (slots + N') (ws ++ [(q, .inl (g.2 k, a0))]) lv (.ref q :: st) (pc + 2)) : St x cells slots ws lv (.int n :: st) pc := fun H locs ls hP hD hS hl => by
  obtain ⟨C1, C2, C3, C4, C5, C6, C7, C8, C9⟩ := C
  subst C8
  refine va_newa C1.1 C1.2.1 (by rw [hty]; exact C1.2.2.2.2 _ harr) hty C2 hP hD hS C3 ha hn hN hbytes (by rw [C4]; exact hcells) (by rw [C4]; exact hslots) hd (fun q cA H1 hK1 hP1 hD1 hS1 => ?_)
  have h1 := (hK1.2 5 (cA, ty) rfl).2
  have h2 := (C2.2 k _ hk).2
  have e : cA = (xg x).2 k := ra_int ty hno h1 h2
  subst e
  exact kk q H1 locs ls hP1 hD1 hS1 hl
theorem r_newq (C : Cx x g cc own Ts rm y ret nL) (hN0 : NW (xs x)) {index : Nat} (hcl : Cond.classLink own index RX1 ∈ Ts) {n : Int32} {N' : Nat} (hn : ¬ n < 0) (hN : n.toNatClampNeg = N') (hbytes : N' * 4 ≤ 536870912) (hcells : cells + 1 ≤ rm.cells) (hslots : slots + N' ≤ rm.slots) (hd : decode cc pc = .ok (.anewarray index, 3)) (kk : ∀ q : Nat, St x (cells + 1) (slots + N') (ws ++ [(q, .inl (g.2 4, N', .inr (.inr (.inr (.inr (fun _ => none))))))]) lv (.ref q :: st) (pc + 3)) : St x cells slots ws lv (.int n :: st) pc := fun H locs ls hP hD hS hl => by
  obtain ⟨C1, C2, C3, C4, C5, C6, C7, C8, C9⟩ := C
  subst C8
  refine va_newq C1.1 C1.2.1 C1.2.2.2.1 (C1.2.2.2.2 _ hcl) hN0.2 C2 hP hD hS C3 hn hN hbytes (by rw [C4]; exact hcells) (by rw [C4]; exact hslots) hd (fun q cA H1 hK1 hP1 hD1 hS1 => ?_)
  have h1 : va_RA (xs x) cA (.object RX1) := (hK1.2 5 (cA, .object RX1) rfl).2
  have h2 : va_RA (xs x) ((xg x).2 4) (.object RX1) := (C2.2 4 _ rfl).2
  obtain ⟨_, _, _, _, _, f1⟩ := h1
  obtain ⟨_, _, _, _, _, f2⟩ := h2
  have e : cA = (xg x).2 4 := by rw [f1] at f2; exact Option.some.inj f2
  subst e
  exact kk q H1 locs ls hP1 hD1 hS1 hl
end ALLOC
