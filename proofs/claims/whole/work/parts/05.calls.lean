/-! contracts over pure worlds, calls, returns, entry -/
def nestW : List Cond := [.methodLinkNest RX5 9 yX3_init RX5, .methodLinkNest RX5 28 yX2_init RX5, .methodLinkNest RX5 35 yX0_init RX5, .methodLinkNest RX5 45 yX4_init RX5, .methodLinkNest RX5 202 yX4_settle RX5, .methodLinkNest RX2 23 yX5_isIn RX5, .methodLinkNest RX2 27 yX5_bit RX5, .methodLinkNest RX2 31 yX5_withBit RX5]
def NW (U : State) : Prop := (∀ w ∈ nestW, va_Nw w U) ∧ va_AO RX1 U
theorem NW.warm {s U : State} (hW : s.WarmedH U.vm) (h : NW s) : NW U := by
  refine ⟨fun w hw => ?_, va_AO.moved hW.alike h.2⟩
  have h1 := h.1 w hw
  simp only [nestW, List.mem_cons, List.not_mem_nil, or_false] at hw
  rcases hw with rfl | rfl | rfl | rfl | rfl | rfl | rfl | rfl <;> exact va_Nw.warmM hW h1
theorem NW.same {u U : State} (e : u.vm = U.vm) (h : NW u) : NW U := by
  refine ⟨fun w hw => ?_, va_AO.moved (by rw [e]; exact Vm.Alike.refl _) h.2⟩
  have h1 := h.1 w hw
  simp only [nestW, List.mem_cons, List.not_mem_nil, or_false] at hw
  rcases hw with rfl | rfl | rfl | rfl | rfl | rfl | rfl | rfl <;> exact va_Nw.same rfl e h1
/-- a method's start: size, world, tables -/
def PG (g : Gx) (W0 : va_W) (sz : Nat) : State → Prop := fun U => U.heap.size = sz ∧ va_P g.1 vwCl W0 U.heap ∧ (va_K g.1 vwCl (kty g) U ∧ NW U) ∧ va_D (fun _ => True) W0
/-- a method's end: its answer and its new state are as Q says, the world is that of the new state -/
def QG {σ : Type} (g : Gx) (W0 : va_W) (WS : σ → va_W) (Q : Option Value → σ → Prop) (sz : Nat) : Array Value → State → Outcome → State → Prop := fun _ st oc t => (∃ (v : Option Value) (u : σ), oc = .returned v ∧ Q v u ∧ va_P g.1 vwCl (WS u) t.heap ∧ va_D (va_A W0 sz) (WS u)) ∧ va_F (va_A W0 sz) st t
def MetG {σ : Type} (l : Launch) (g : Gx) (y : MethodName) (ws : List Cond) (rm : Room) (av : List Value) (W0 : va_W) (WS : σ → va_W) (Q : Option Value → σ → Prop) (mc ms : Nat) : Prop := ∀ sz : Nat, Met l y ws rm (va_Pc av (PG g W0 sz)) (QG g W0 WS Q sz) mc ms (va_A W0 sz)
def Zq {σ : Type} (x : Nx) (g : Gx) (W0 : va_W) (WS : σ → va_W) (Q : Option Value → σ → Prop) (mc ms : Nat) : Prop := xZ x = MQ (xb x) (QG g W0 WS Q (xs x).heap.size) (xa x) (xs x) mc ms (va_A W0 (xs x).heap.size) ∧ xA x = va_A W0 (xs x).heap.size ∧ NW (xs x)
def qI {σ : Type} (Q : Int32 → σ → Prop) : Option Value → σ → Prop := fun v u => ∃ r : Int32, v = some (.int r) ∧ Q r u
def qL {σ : Type} (Q : Int64 → σ → Prop) : Option Value → σ → Prop := fun v u => ∃ r : Int64, v = some (.long r) ∧ Q r u
def qV {σ : Type} (Q : σ → Prop) : Option Value → σ → Prop := fun v u => v = none ∧ Q u
def qA {σ : Type} (Q : Option Nat → σ → Prop) : Option Value → σ → Prop := fun v u => ∃ r : Option Nat, v = some (va_rf r) ∧ Q r u
theorem met_of {σ : Type} {l : Launch} {g : Gx} {y : MethodName} {ws ws' : List Cond} {rm : Room} {av : List Value} {W0 : va_W} {WS : σ → va_W} {Q : Option Value → σ → Prop} {mc ms nL : Nat} {cc : ByteArray} {own : String} {ret : Option FieldType} {lv : List (Nat × Value)} (hy : plainName y.cls = true) (hown : y.cls = own) (hw : ws = Cond.code y cc nL ret :: ws') (hav : (lg_sl av).length ≤ nL) (hlv : lv_args 0 av = lv) (body : ∀ x : Nx, Cx x g cc own ws rm y ret nL → xl x = l → Zq x g W0 WS Q mc ms → St x 0 0 W0 lv [] 0) : MetG l g y ws rm av W0 WS Q mc ms := by
  intro sz
  refine Met.ofW (cc := cc) (maxL := nL) (ret := ret) hy hw ?_
  intro p e s m args below meth c s₁ B hml hv
  obtain ⟨rfl, hsz, hP, hK, hD0⟩ := hv
  subst hsz
  subst hown
  have hl := lv_entry av (n := nL) hav
  rw [lg_entry_eq]
  rw [hlv] at hl
  exact body (p, l, e, (headSpec ws rm).room, s, m, av.toArray, below, meth, c, g, va_A W0 s.heap.size, MQ below (QG g W0 WS Q s.heap.size) av.toArray s mc ms (va_A W0 s.heap.size), nL) ⟨⟨B.exec, B.bytes, hml, findClass_of_methodNamed B.named, atoms_spec (ws := ws) B.pre⟩, hK.1, fun q h => Or.inr h, rfl, (name_of_methodNamed B.named B.method).1, B.notSynchronized, B.returns, rfl, rfl⟩ rfl ⟨rfl, rfl, hK.2⟩ s.heap [] _ hP hD0.self va_S.rf hl
/-! worlds by membership -/
theorem vP_iff {D : va_G} {cl : List vw_C} {ws : va_W} {H : Heap} : va_P D cl ws H ↔ ∀ q ∈ ws, va_at D cl q H := by
  constructor
  · intro h q hq
    obtain ⟨k, hk⟩ := List.getElem?_of_mem hq
    exact h k q hk
  · intro h k q hk
    exact h q (List.mem_of_getElem? hk)
theorem vD_iff {A : Nat → Prop} {ws : va_W} : va_D A ws ↔ (ws.map (fun q => q.1)).Nodup ∧ ∀ q ∈ ws, A q.1 := by
  constructor
  · intro h
    refine ⟨List.pairwise_iff_getElem.mpr fun i j hi hj hij e => ?_, fun q hq => ?_⟩
    · have hi' : i < ws.length := by simpa using hi
      have hj' : j < ws.length := by simpa using hj
      rw [List.getElem_map, List.getElem_map] at e
      exact absurd (h.1 i j ws[i] ws[j] (List.getElem?_eq_getElem hi') (List.getElem?_eq_getElem hj') e) (Nat.ne_of_lt hij)
    · obtain ⟨k, hk⟩ := List.getElem?_of_mem hq
      exact h.2 k q hk
  · intro ⟨h1, h2⟩
    refine ⟨fun i j p q hi hj e => ?_, fun k q hk => h2 q (List.mem_of_getElem? hk)⟩
    obtain ⟨hi', rfl⟩ := List.getElem?_eq_some_iff.mp hi
    obtain ⟨hj', rfl⟩ := List.getElem?_eq_some_iff.mp hj
    have h3 := List.pairwise_iff_getElem.mp h1
    rcases Nat.lt_trichotomy i j with hij | hij | hij
    · exact absurd (by rw [List.getElem_map, List.getElem_map]; exact e) (h3 i j (by simpa using hi') (by simpa using hj') hij)
    · exact hij
    · exact absurd (by rw [List.getElem_map, List.getElem_map]; exact e.symm) (h3 j i (by simpa using hj') (by simpa using hi') hij)
theorem vP_perm {D : va_G} {cl : List vw_C} {ws ws' : va_W} {H : Heap} (hp : ws.Perm ws') (h : va_P D cl ws H) : va_P D cl ws' H := vP_iff.mpr fun q hq => vP_iff.mp h q (hp.mem_iff.mpr hq)
theorem vD_perm {A : Nat → Prop} {ws ws' : va_W} (hp : ws.Perm ws') (h : va_D A ws) : va_D A ws' := vD_iff.mpr ⟨(hp.map _).nodup_iff.mp (vD_iff.mp h).1, fun q hq => (vD_iff.mp h).2 q (hp.mem_iff.mpr hq)⟩
theorem vA_iff {ws : va_W} {sz q : Nat} : va_A ws sz q ↔ (∃ e, (q, e) ∈ ws) ∨ sz ≤ q := by
  constructor
  · rintro (⟨k, e, h⟩ | h)
    · exact Or.inl ⟨e, List.mem_of_getElem? h⟩
    · exact Or.inr h
  · rintro (⟨e, h⟩ | h)
    · obtain ⟨k, hk⟩ := List.getElem?_of_mem h
      exact Or.inl ⟨k, e, hk⟩
    · exact Or.inr h
/-- two cells of one world at one address are one -/
theorem vD_one {A : Nat → Prop} {ws : va_W} (h : va_D A ws) {a : Nat} {e e' : va_E} (h1 : (a, e) ∈ ws) (h2 : (a, e') ∈ ws) : e = e' := by
  obtain ⟨i, hi⟩ := List.getElem?_of_mem h1
  obtain ⟨j, hj⟩ := List.getElem?_of_mem h2
  have := h.1 i j _ _ hi hj rfl
  subst this
  rw [hi] at hj
  cases hj
  rfl
section CALLS
variable {x : Nx} {g : Gx} {cc : ByteArray} {own : String} {Ts : List Cond} {rm : Room} {y : MethodName} {ret : Option FieldType} {nL cells slots pc : Nat} {ws : va_W} {lv : List (Nat × Value)} {st : List Value}
/-- what a call gives, once its kind's own conditions are met -/
def RunG {σ : Type} (x : Nx) (g : Gx) (cells slots : Nat) (lv : List (Nat × Value)) (st0 rest : List Value) (pc : Nat) (ws W0 : va_W) (WS : σ → va_W) (Q : Option Value → σ → Prop) (mc ms : Nat) : Prop :=
  ∀ (H : Heap) (locs : List Loc) (ls : Array Slot), va_P g.1 vwCl ws H → va_P g.1 vwCl W0 H → va_D (fun _ => True) W0 → lv_has ls (xn x) lv → ∃ a : Array Value, va_Run (xp x) (xl x) (xe x) (xR x) (xs x) (xm x) (xa x) (xb x) (xt x) (xc x) H locs cells slots mc ms (F0 (xm x) pc ls st0) rest (QG g W0 WS Q H.size a) (va_A W0 H.size)
theorem run_core {σ : Type} (C : Cx x g cc own Ts rm y ret nL) {st0 rest : List Value} {W0 wr : va_W} {WS : σ → va_W} {Q : Option Value → σ → Prop} {mc ms : Nat} (hr : RunG x g cells slots lv st0 rest pc ws W0 WS Q mc ms) (hp : ws.Perm (W0 ++ wr)) {ws' : σ → va_W} (hp' : ∀ u, (WS u ++ wr).Perm (ws' u)) (kk : ∀ v u, Q v u → St x (cells + mc) (slots + ms) (ws' u) lv (v.toList ++ rest) (pc + 3)) : St x cells slots ws lv st0 pc := by
  obtain ⟨C1, C2, C3, C4, C5, C6, C7, C8, C9⟩ := C
  subst C8
  intro H locs ls hP hD hS hl
  have hPp := vP_perm hp hP
  have hDp := vD_perm hp hD
  have hP0 : va_P (xg x).1 vwCl W0 H := vP_iff.mpr fun q hq => vP_iff.mp hPp q (List.mem_append_left _ hq)
  have hD0 : va_D (fun _ => True) W0 := by
    have := vD_iff.mp hDp
    rw [List.map_append] at this
    exact vD_iff.mpr ⟨(List.nodup_append.mp this.1).1, fun _ _ => trivial⟩
  have hF : ∀ q, va_A W0 H.size q → xA x q := by
    intro q hq
    rcases vA_iff.mp hq with ⟨e, h⟩ | h
    · exact (vD_iff.mp hDp).2 (q, e) (List.mem_append_left _ h)
    · exact C3 q (Nat.le_trans hS.1 h)
  obtain ⟨a, hrun⟩ := hr H locs ls hP hP0 hD0 hl
  intro T hT X
  obtain ⟨v, st₀, t, T', L, h0, X', hL, e1, e2, ⟨⟨v', u, hv, hq, hP1, hD1⟩, hz, hk⟩, stp⟩ := hrun T hT X
  cases hv
  rw [h0] at hz hk
  have hapart : ∀ q ∈ wr, q.1 < H.size ∧ ¬ va_A W0 H.size q.1 := by
    intro q hq
    have hl1 := (vP_iff.mp hPp q (List.mem_append_right _ hq)).lt
    refine ⟨hl1, fun h => ?_⟩
    rcases vA_iff.mp h with ⟨e, h⟩ | h
    · have := (vD_iff.mp hDp).1
      rw [List.map_append] at this
      exact (List.nodup_append.mp this).2.2 q.1 (List.mem_map.mpr ⟨(q.1, e), h, rfl⟩) q.1 (List.mem_map.mpr ⟨q, hq, rfl⟩) rfl
    · omega
  have hPn : va_P (xg x).1 vwCl (WS u ++ wr) T'.heap := by
    rw [e1]
    refine vP_iff.mpr fun q hq => ?_
    rcases List.mem_append.mp hq with h | h
    · exact vP_iff.mp hP1 q h
    · exact (vP_iff.mp hPp q (List.mem_append_right _ h)).kept (hk q.1 (hapart q h).1 (hapart q h).2)
  have hDn : va_D (xA x) (WS u ++ wr) := by
    refine vD_iff.mpr ⟨?_, fun q hq => ?_⟩
    · rw [List.map_append]
      have h3 := (vD_iff.mp hDp).1
      rw [List.map_append] at h3
      refine List.nodup_append.mpr ⟨(vD_iff.mp hD1).1, (List.nodup_append.mp h3).2.1, fun b hb b' hb' e => ?_⟩
      obtain ⟨q, hq, rfl⟩ := List.mem_map.mp hb
      obtain ⟨q', hq', rfl⟩ := List.mem_map.mp hb'
      exact (hapart q' hq').2 (by rw [← e]; exact (vD_iff.mp hD1).2 q hq)
    · rcases List.mem_append.mp hq with h | h
      · exact hF _ ((vD_iff.mp hD1).2 q h)
      · exact (vD_iff.mp hDp).2 q (List.mem_append_right _ h)
  have hSn : va_S (xA x) (xs x).heap T'.heap (locs ++ L) := by
    refine ⟨Nat.le_trans hS.1 (by rw [e1]; exact hz), fun q h1 h2 => ?_, fun q hq => ?_⟩
    · rw [e1, hk q (Nat.lt_of_lt_of_le h1 hS.1) (fun z => h2 (hF q z))]
      exact hS.2.1 q h1 h2
    · rcases List.mem_append.mp hq with h | h
      · exact hS.2.2 q h
      · exact hF _ (hL q h)
  obtain ⟨t2, a1, b1⟩ := kk v u hq T'.heap (locs ++ L) ls (vP_perm (hp' u) hPn) (vD_perm (hp' u) hDn) hSn hl T' rfl X'
  exact ⟨t2, stp t2 a1, b1⟩
/-- a call whose callee leaves its world as it was: the caller's world stays, whatever stands beside -/
theorem run_ro {σ : Type} (C : Cx x g cc own Ts rm y ret nL) {st0 rest : List Value} {W0 : va_W} {WS : σ → va_W} {Q : Option Value → σ → Prop} {mc ms : Nat} (hr : RunG x g cells slots lv st0 rest pc ws W0 WS Q mc ms) (hsub : ∀ q ∈ W0, q ∈ ws) (hnd : (W0.map (fun q => q.1)).Nodup) (hsame : ∀ u, WS u = W0) (kk : ∀ v u, Q v u → St x (cells + mc) (slots + ms) ws lv (v.toList ++ rest) (pc + 3)) : St x cells slots ws lv st0 pc := by
  obtain ⟨C1, C2, C3, C4, C5, C6, C7, C8, C9⟩ := C
  subst C8
  intro H locs ls hP hD hS hl
  have hP0 : va_P (xg x).1 vwCl W0 H := vP_iff.mpr fun q hq => vP_iff.mp hP q (hsub q hq)
  have hD0 : va_D (fun _ => True) W0 := vD_iff.mpr ⟨hnd, fun _ _ => trivial⟩
  have hF : ∀ q, va_A W0 H.size q → xA x q := by
    intro q hq
    rcases vA_iff.mp hq with ⟨e, h⟩ | h
    · exact (vD_iff.mp hD).2 (q, e) (hsub _ h)
    · exact C3 q (Nat.le_trans hS.1 h)
  obtain ⟨a, hrun⟩ := hr H locs ls hP hP0 hD0 hl
  intro T hT X
  obtain ⟨v, st₀, t, T', L, h0, X', hL, e1, e2, ⟨⟨v', u, hv, hq, hP1, hD1⟩, hz, hk⟩, stp⟩ := hrun T hT X
  cases hv
  rw [h0] at hz hk
  rw [hsame u] at hP1
  have hPn : va_P (xg x).1 vwCl ws T'.heap := by
    rw [e1]
    refine vP_iff.mpr fun q hq => ?_
    by_cases hin : ∃ e, (q.1, e) ∈ W0
    · obtain ⟨e, he⟩ := hin
      have := vD_one hD (a := q.1) (e := q.2) (e' := e) hq (hsub _ he)
      have h4 : q = (q.1, e) := by rw [← this]
      rw [h4]
      exact vP_iff.mp hP1 _ he
    · have hl1 := (vP_iff.mp hP q hq).lt
      refine (vP_iff.mp hP q hq).kept (hk q.1 hl1 (fun h => ?_))
      rcases vA_iff.mp h with h | h
      · exact hin h
      · omega
  have hSn : va_S (xA x) (xs x).heap T'.heap (locs ++ L) := by
    refine ⟨Nat.le_trans hS.1 (by rw [e1]; exact hz), fun q h1 h2 => ?_, fun q hq => ?_⟩
    · rw [e1, hk q (Nat.lt_of_lt_of_le h1 hS.1) (fun z => h2 (hF q z))]
      exact hS.2.1 q h1 h2
    · rcases List.mem_append.mp hq with h | h
      · exact hS.2.2 q h
      · exact hF _ (hL q h)
  obtain ⟨t2, a1, b1⟩ := kk v u hq T'.heap (locs ++ L) ls hPn hD hSn hl T' rfl X'
  exact ⟨t2, stp t2 a1, b1⟩
theorem pg_blind {g : Gx} {av : List Value} {W0 : va_W} {sz : Nat} : FrameBlind (va_Pc av (PG g W0 sz)) := by
  intro a U f mk h
  obtain ⟨h0, h1, h2, h3, h4⟩ := h
  exact ⟨h0, h1, h2, ⟨va_K.moved (u := U) (U := U.calling f mk a) (Vm.Alike.refl U.vm) h3.1, NW.same (u := U) rfl h3.2⟩, h4⟩
/-- the callee's word on its descriptor -/
def dscV (C : String) (y : MethodName) (n : Nat) : Prop := y.cls = C ∧ y.cls ≠ "java/lang/invoke/MethodHandle" ∧ y.cls ≠ "java/lang/invoke/VarHandle" ∧ (parseMethodDescriptor y.desc).map (fun d => d.parameters.length) = some n
theorem run_V {σ : Type} {W0 : va_W} {WS : σ → va_W} {Q : Option Value → σ → Prop} {mc ms : Nat} (C : Cx x g cc own Ts rm y ret nL) (hN : NW (xs x)) {yc : MethodName} {wsc wsc' : List Cond} {rmc : Room} {bytes : ByteArray} {maxL n index ci : Nat} {retc : Option FieldType} {cn : String} {T : u_T} {N b : Nat} {fs : List Value} {As rest : List Value} (hM : MetG (xl x) g yc wsc rmc (.ref b :: As) W0 WS Q mc ms) (hG : GoodIn Ts (wsV own index cn yc wsc)) (hw : wsc = Cond.code yc bytes maxL retc :: wsc') (hdsc : dscV cn yc n) (hrc : rmc.cells = mc) (hrs : rmc.slots = ms) (hR : rmc.frames + 1 ≤ rm.frames ∧ 8 + (maxL + 11) + rmc.locals ≤ rm.locals) (hcl : vwCl[ci]? = some (cn, T, N)) (hb : (b, .inr (ci, fs)) ∈ ws) (hn : As.length = n) (hW : (rest.map fun v => v.category).sum ≤ 8) (hd : decode cc pc = .ok (.invokevirtual index, 3)) (hf : cells + mc ≤ rm.cells ∧ slots + ms ≤ rm.slots) : RunG x g cells slots lv (As.reverse ++ .ref b :: rest) rest pc ws W0 WS Q mc ms := by
  obtain ⟨C1, C2, C3, C4, C5, C6, C7, C8, C9⟩ := C
  intro H locs ls hP hP0 hD0 hl
  obtain ⟨q0, he⟩ := List.getElem?_of_mem hb
  refine ⟨_, va_runV (As := As) (rest := rest) C1 (hM H.size) (cwV n C1.2.2.2.2 hG hw hrc hrs hdsc (by rw [C4]; exact hR)) ⟨pg_blind, va_recv C2 hP hcl he, fun U hU hWm => ⟨rfl, by rw [hU], by rw [hU]; exact hP0, ⟨va_K.moved hWm.alike C2, NW.warm hWm hN⟩, hD0⟩⟩ rfl hn (by rw [← C9]; exact hl.1) rfl (lv_room hW) hd (by rw [C4]; exact hf)⟩
theorem run_VN {σ : Type} {W0 : va_W} {WS : σ → va_W} {Q : Option Value → σ → Prop} {mc ms : Nat} (C : Cx x g cc own Ts rm y ret nL) (hN : NW (xs x)) {yc : MethodName} {wsc wsc' : List Cond} {rmc : Room} {bytes : ByteArray} {maxL n index ci : Nat} {retc : Option FieldType} {cn host : String} {T : u_T} {N b : Nat} {fs : List Value} {As rest : List Value} (hM : MetG (xl x) g yc wsc rmc (.ref b :: As) W0 WS Q mc ms) (hG : GoodIn Ts wsc) (hnl : Cond.methodLinkNest own index yc host ∈ nestW) (hini : Cond.initialized yc.cls ∈ Ts) (him : Cond.instanceMethod yc ∈ Ts) (hsel : Cond.selects cn yc yc ∈ Ts) (hw : wsc = Cond.code yc bytes maxL retc :: wsc') (hdsc : dscV cn yc n) (hrc : rmc.cells = mc) (hrs : rmc.slots = ms) (hR : rmc.frames + 1 ≤ rm.frames ∧ 8 + (maxL + 11) + rmc.locals ≤ rm.locals) (hcl : vwCl[ci]? = some (cn, T, N)) (hb : (b, .inr (ci, fs)) ∈ ws) (hn : As.length = n) (hW : (rest.map fun v => v.category).sum ≤ 8) (hd : decode cc pc = .ok (.invokevirtual index, 3)) (hf : cells + mc ≤ rm.cells ∧ slots + ms ≤ rm.slots) : RunG x g cells slots lv (As.reverse ++ .ref b :: rest) rest pc ws W0 WS Q mc ms := by
  obtain ⟨C1, C2, C3, C4, C5, C6, C7, C8, C9⟩ := C
  intro H locs ls hP hP0 hD0 hl
  obtain ⟨q0, he⟩ := List.getElem?_of_mem hb
  refine ⟨_, va_runVN (As := As) (rest := rest) C1 (hM H.size) ⟨va_cnB n C1.2.2.2.2 hG hw hrc hrs (hN.1 _ hnl) (C1.2.2.2.2 _ hini) hdsc.2 (by rw [C4]; exact hR), C1.2.2.2.2 _ him, C1.2.2.2.2 _ hsel⟩ ⟨pg_blind, va_recv C2 hP hcl he, fun U hU hWm => ⟨rfl, by rw [hU], by rw [hU]; exact hP0, ⟨va_K.moved hWm.alike C2, NW.warm hWm hN⟩, hD0⟩⟩ rfl hn (by rw [← C9]; exact hl.1) rfl (lv_room hW) hd (by rw [C4]; exact hf)⟩
theorem run_S {σ : Type} {W0 : va_W} {WS : σ → va_W} {Q : Option Value → σ → Prop} {mc ms : Nat} (C : Cx x g cc own Ts rm y ret nL) (hN : NW (xs x)) {yc : MethodName} {wsc wsc' : List Cond} {rmc : Room} {bytes : ByteArray} {maxL n index : Nat} {retc : Option FieldType} {cn : String} {As rest : List Value} (hM : MetG (xl x) g yc wsc rmc As W0 WS Q mc ms) (hG : GoodIn Ts (va_wsS own index yc wsc)) (hw : wsc = Cond.code yc bytes maxL retc :: wsc') (hdsc : dscV cn yc n) (hrc : rmc.cells = mc) (hrs : rmc.slots = ms) (hR : rmc.frames + 1 ≤ rm.frames ∧ 8 + (maxL + 11) + rmc.locals ≤ rm.locals) (hn : As.length = n) (hW : (rest.map fun v => v.category).sum ≤ 8) (hd : decode cc pc = .ok (.invokestatic index, 3)) (hf : cells + mc ≤ rm.cells ∧ slots + ms ≤ rm.slots) : RunG x g cells slots lv (As.reverse ++ rest) rest pc ws W0 WS Q mc ms := by
  obtain ⟨C1, C2, C3, C4, C5, C6, C7, C8, C9⟩ := C
  intro H locs ls hP hP0 hD0 hl
  refine ⟨_, va_runS (As := As) (rest := rest) C1 (hM H.size) (va_cwS n C1.2.2.2.2 hG hw hrc hrs hdsc.2 (by rw [C4]; exact hR)) ⟨pg_blind, fun U hU hWm => ⟨rfl, by rw [hU], by rw [hU]; exact hP0, ⟨va_K.moved hWm.alike C2, NW.warm hWm hN⟩, hD0⟩⟩ rfl hn (by rw [← C9]; exact hl.1) rfl (lv_room hW) hd (by rw [C4]; exact hf)⟩
theorem run_SN {σ : Type} {W0 : va_W} {WS : σ → va_W} {Q : Option Value → σ → Prop} {mc ms : Nat} (C : Cx x g cc own Ts rm y ret nL) (hN : NW (xs x)) {yc : MethodName} {wsc wsc' : List Cond} {rmc : Room} {bytes : ByteArray} {maxL n index : Nat} {retc : Option FieldType} {cn host : String} {As rest : List Value} (hM : MetG (xl x) g yc wsc rmc As W0 WS Q mc ms) (hG : GoodIn Ts wsc) (hnl : Cond.methodLinkNest own index yc host ∈ nestW) (hini : Cond.initialized yc.cls ∈ Ts) (hst : Cond.static yc ∈ Ts) (hw : wsc = Cond.code yc bytes maxL retc :: wsc') (hdsc : dscV cn yc n) (hrc : rmc.cells = mc) (hrs : rmc.slots = ms) (hR : rmc.frames + 1 ≤ rm.frames ∧ 8 + (maxL + 11) + rmc.locals ≤ rm.locals) (hn : As.length = n) (hW : (rest.map fun v => v.category).sum ≤ 8) (hd : decode cc pc = .ok (.invokestatic index, 3)) (hf : cells + mc ≤ rm.cells ∧ slots + ms ≤ rm.slots) : RunG x g cells slots lv (As.reverse ++ rest) rest pc ws W0 WS Q mc ms := by
  obtain ⟨C1, C2, C3, C4, C5, C6, C7, C8, C9⟩ := C
  intro H locs ls hP hP0 hD0 hl
  refine ⟨_, va_runSN (As := As) (rest := rest) C1 (hM H.size) ⟨va_cnB n C1.2.2.2.2 hG hw hrc hrs (hN.1 _ hnl) (C1.2.2.2.2 _ hini) hdsc.2 (by rw [C4]; exact hR), C1.2.2.2.2 _ hst, trivial⟩ ⟨pg_blind, fun U hU hWm => ⟨rfl, by rw [hU], by rw [hU]; exact hP0, ⟨va_K.moved hWm.alike C2, NW.warm hWm hN⟩, hD0⟩⟩ rfl hn (by rw [← C9]; exact hl.1) rfl (lv_room hW) hd (by rw [C4]; exact hf)⟩
theorem run_I {σ : Type} {W0 : va_W} {WS : σ → va_W} {Q : Option Value → σ → Prop} {mc ms : Nat} (C : Cx x g cc own Ts rm y ret nL) (hN : NW (xs x)) {yc : MethodName} {wsc wsc' : List Cond} {rmc : Room} {bytes : ByteArray} {maxL n index b : Nat} {cn : String} {As rest : List Value} (hM : MetG (xl x) g yc wsc rmc (.ref b :: As) W0 WS Q mc ms) (hG : GoodIn Ts wsc) (hini : Cond.initialized yc.cls ∈ Ts) (hlk : Cond.methodLink own index yc ∈ Ts) (him : Cond.instanceMethod yc ∈ Ts) (hnm : yc.name = "<init>") (hw : wsc = Cond.code yc bytes maxL none :: wsc') (hdsc : dscV cn yc n) (hrc : rmc.cells = mc) (hrs : rmc.slots = ms) (hR : rmc.frames + 1 ≤ rm.frames ∧ 8 + (maxL + 11) + rmc.locals ≤ rm.locals) (hn : As.length = n) (hW : (rest.map fun v => v.category).sum ≤ 8) (hd : decode cc pc = .ok (.invokespecial index, 3)) (hf : cells + mc ≤ rm.cells ∧ slots + ms ≤ rm.slots) : RunG x g cells slots lv (As.reverse ++ .ref b :: rest) rest pc ws W0 WS Q mc ms := by
  obtain ⟨C1, C2, C3, C4, C5, C6, C7, C8, C9⟩ := C
  intro H locs ls hP hP0 hD0 hl
  refine ⟨_, va_runI (As := As) (rest := rest) C1 (hM H.size) (cwI n C1.2.2.2.2 hG hw hrc hrs (C1.2.2.2.2 _ hini) (C1.2.2.2.2 _ hlk) (C1.2.2.2.2 _ him) hnm hdsc.2 (by rw [C4]; exact hR)) ⟨pg_blind, fun U hU hWm => ⟨rfl, by rw [hU], by rw [hU]; exact hP0, ⟨va_K.moved hWm.alike C2, NW.warm hWm hN⟩, hD0⟩⟩ rfl hn (by rw [← C9]; exact hl.1) rfl (lv_room hW) hd (by rw [C4]; exact hf)⟩
theorem run_IN {σ : Type} {W0 : va_W} {WS : σ → va_W} {Q : Option Value → σ → Prop} {mc ms : Nat} (C : Cx x g cc own Ts rm y ret nL) (hN : NW (xs x)) {yc : MethodName} {wsc wsc' : List Cond} {rmc : Room} {bytes : ByteArray} {maxL n index b : Nat} {cn host : String} {As rest : List Value} (hM : MetG (xl x) g yc wsc rmc (.ref b :: As) W0 WS Q mc ms) (hG : GoodIn Ts wsc) (hnl : Cond.methodLinkNest own index yc host ∈ nestW) (hini : Cond.initialized yc.cls ∈ Ts) (him : Cond.instanceMethod yc ∈ Ts) (hnm : yc.name = "<init>") (hw : wsc = Cond.code yc bytes maxL none :: wsc') (hdsc : dscV cn yc n) (hrc : rmc.cells = mc) (hrs : rmc.slots = ms) (hR : rmc.frames + 1 ≤ rm.frames ∧ 8 + (maxL + 11) + rmc.locals ≤ rm.locals) (hn : As.length = n) (hW : (rest.map fun v => v.category).sum ≤ 8) (hd : decode cc pc = .ok (.invokespecial index, 3)) (hf : cells + mc ≤ rm.cells ∧ slots + ms ≤ rm.slots) : RunG x g cells slots lv (As.reverse ++ .ref b :: rest) rest pc ws W0 WS Q mc ms := by
  obtain ⟨C1, C2, C3, C4, C5, C6, C7, C8, C9⟩ := C
  intro H locs ls hP hP0 hD0 hl
  refine ⟨_, va_runIN (As := As) (rest := rest) C1 (hM H.size) ⟨va_cnB n C1.2.2.2.2 hG hw hrc hrs (hN.1 _ hnl) (C1.2.2.2.2 _ hini) hdsc.2 (by rw [C4]; exact hR), hnm, C1.2.2.2.2 _ him⟩ ⟨pg_blind, fun U hU hWm => ⟨rfl, by rw [hU], by rw [hU]; exact hP0, ⟨va_K.moved hWm.alike C2, NW.warm hWm hN⟩, hD0⟩⟩ rfl hn (by rw [← C9]; exact hl.1) rfl (lv_room hW) hd (by rw [C4]; exact hf)⟩
/-! returns -/
theorem r_iret {σ : Type} {W0 : va_W} {WS : σ → va_W} {Q : Int32 → σ → Prop} {mc ms : Nat} (C : Cx x g cc own Ts rm y (some .int) nL) (hZ : Zq x g W0 WS (qI Q) mc ms) {a : Int32} {u : σ} (hq : Q a u) (hw : ws = WS u) (hd : decode cc pc = .ok (.ireturn, 1)) : St x mc ms ws lv [.int a] pc := by
  obtain ⟨C1, C2, C3, C4, C5, C6, C7, C8, C9⟩ := C
  subst C8; subst hw
  intro H locs ls hP hD hS hl
  rw [hZ.1]
  rw [hZ.2.1] at hD hS
  exact W.iret C1.1 C1.2.1 C7 (fun t ht hW => ⟨⟨_, u, rfl, ⟨a, rfl, hq⟩, by rw [ht]; exact hP, hD⟩, hS.F ht⟩) hS.2.2 hd C6
theorem r_zret {σ : Type} {W0 : va_W} {WS : σ → va_W} {Q : Int32 → σ → Prop} {mc ms : Nat} (C : Cx x g cc own Ts rm y (some .boolean) nL) (hZ : Zq x g W0 WS (qI Q) mc ms) {a : Int32} {u : σ} (hn : narrow .boolean (.int a) = .int a) (hq : Q a u) (hw : ws = WS u) (hd : decode cc pc = .ok (.ireturn, 1)) : St x mc ms ws lv [.int a] pc := by
  obtain ⟨C1, C2, C3, C4, C5, C6, C7, C8, C9⟩ := C
  subst C8; subst hw
  intro H locs ls hP hD hS hl
  rw [hZ.1]
  rw [hZ.2.1] at hD hS
  exact W.zret C1.1 C1.2.1 C7 hn (fun t ht hW => ⟨⟨_, u, rfl, ⟨a, rfl, hq⟩, by rw [ht]; exact hP, hD⟩, hS.F ht⟩) hS.2.2 hd C6
theorem r_lret {σ : Type} {W0 : va_W} {WS : σ → va_W} {Q : Int64 → σ → Prop} {mc ms : Nat} (C : Cx x g cc own Ts rm y (some .long) nL) (hZ : Zq x g W0 WS (qL Q) mc ms) {a : Int64} {u : σ} (hq : Q a u) (hw : ws = WS u) (hd : decode cc pc = .ok (.lreturn, 1)) : St x mc ms ws lv [.long a] pc := by
  obtain ⟨C1, C2, C3, C4, C5, C6, C7, C8, C9⟩ := C
  subst C8; subst hw
  intro H locs ls hP hD hS hl
  rw [hZ.1]
  rw [hZ.2.1] at hD hS
  exact W.lret C1.1 C1.2.1 C7 (fun t ht hW => ⟨⟨_, u, rfl, ⟨a, rfl, hq⟩, by rw [ht]; exact hP, hD⟩, hS.F ht⟩) hS.2.2 hd C6
theorem r_vret {σ : Type} {W0 : va_W} {WS : σ → va_W} {Q : σ → Prop} {mc ms : Nat} (C : Cx x g cc own Ts rm y none nL) (hZ : Zq x g W0 WS (qV Q) mc ms) {u : σ} (hq : Q u) (hw : ws = WS u) (hd : decode cc pc = .ok (.return_, 1)) : St x mc ms ws lv [] pc := by
  obtain ⟨C1, C2, C3, C4, C5, C6, C7, C8, C9⟩ := C
  subst C8; subst hw
  intro H locs ls hP hD hS hl
  rw [hZ.1]
  rw [hZ.2.1] at hD hS
  exact W.vret C1.1 C1.2.1 C7 (fun t ht hW => ⟨⟨_, u, rfl, ⟨rfl, hq⟩, by rw [ht]; exact hP, hD⟩, hS.F ht⟩) hS.2.2 hd C6
theorem r_aret {σ : Type} {W0 : va_W} {WS : σ → va_W} {Q : Option Nat → σ → Prop} {mc ms : Nat} {cn : String} (C : Cx x g cc own Ts rm y (some (.object cn)) nL) (hZ : Zq x g W0 WS (qA Q) mc ms) {a : Option Nat} {u : σ} (hq : Q a u) (hw : ws = WS u) (hd : decode cc pc = .ok (.areturn, 1)) : St x mc ms ws lv [va_rf a] pc := by
  obtain ⟨C1, C2, C3, C4, C5, C6, C7, C8, C9⟩ := C
  subst C8; subst hw
  intro H locs ls hP hD hS hl
  rw [hZ.1]
  rw [hZ.2.1] at hD hS
  exact W.aret C1.1 C1.2.1 C7 (Or.inl ⟨_, rfl⟩) (by cases a with | none => exact Or.inl rfl | some q => exact Or.inr ⟨q, rfl⟩) (fun t ht hW => ⟨⟨_, u, rfl, ⟨a, rfl, hq⟩, by rw [ht]; exact hP, hD⟩, hS.F ht⟩) hS.2.2 hd C6
theorem r_widen {k n : Nat} (h1 : cells ≤ k) (h2 : slots ≤ n) (kk : St x k n ws lv st pc) : St x cells slots ws lv st pc := fun H locs ls hP hD hS hl => W.widen h1 h2 (kk H locs ls hP hD hS hl)
end CALLS
