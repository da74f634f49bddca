/-! OWN FRAMEWORK: St x cells slots ws lv st pc: the machine of x, at pc, with the world ws, the locals lv and the operand stack st, comes to x's end -/
abbrev Gx : Type := va_G × (Nat → ClassId)
abbrev kty (g : Gx) : List (ClassId × FieldType) := [(g.2 0, .int), (g.2 1, .long), (g.2 2, .boolean), (g.2 3, .byte), (g.2 4, .object "WantsBench$Law")]
/-- p, l, e, R, s, m, args, below, meth, c, g, A, Z, nL -/
abbrev Nx : Type := Program × Launch × Env × Room × State × MethodId × Array Value × List Frame × Method × Code × Gx × (Nat → Prop) × (State → Prop) × Nat
abbrev xp (x : Nx) : Program := x.1
abbrev xl (x : Nx) : Launch := x.2.1
abbrev xe (x : Nx) : Env := x.2.2.1
abbrev xR (x : Nx) : Room := x.2.2.2.1
abbrev xs (x : Nx) : State := x.2.2.2.2.1
abbrev xm (x : Nx) : MethodId := x.2.2.2.2.2.1
abbrev xa (x : Nx) : Array Value := x.2.2.2.2.2.2.1
abbrev xb (x : Nx) : List Frame := x.2.2.2.2.2.2.2.1
abbrev xt (x : Nx) : Method := x.2.2.2.2.2.2.2.2.1
abbrev xc (x : Nx) : Code := x.2.2.2.2.2.2.2.2.2.1
abbrev xg (x : Nx) : Gx := x.2.2.2.2.2.2.2.2.2.2.1
abbrev xA (x : Nx) : Nat → Prop := x.2.2.2.2.2.2.2.2.2.2.2.1
abbrev xZ (x : Nx) : State → Prop := x.2.2.2.2.2.2.2.2.2.2.2.2.1
abbrev xn (x : Nx) : Nat := x.2.2.2.2.2.2.2.2.2.2.2.2.2
def St (x : Nx) (cells slots : Nat) (ws : va_W) (lv : List (Nat × Value)) (st : List Value) (pc : Nat) : Prop :=
  ∀ (H : Heap) (locs : List Loc) (ls : Array Slot), va_P (xg x).1 vwCl ws H → va_D (xA x) ws → va_S (xA x) (xs x).heap H locs → lv_has ls (xn x) lv → W (xp x) (xl x) (xe x) (xR x) (xs x) (xm x) (xa x) (xb x) (xt x) (xc x) H locs cells slots (xZ x) (F0 (xm x) pc ls st)
/-- what a method's body knows: exec, code, class, words, tables, new cells are its own, its room, its name, its locks, its type -/
def Cx (x : Nx) (g : Gx) (cc : ByteArray) (own : String) (Ts : List Cond) (rm : Room) (y : MethodName) (ret : Option FieldType) (nL : Nat) : Prop :=
  ((xp x).tables.exec = Jvm.exec ∧ (xc x).code = cc ∧ (xc x).maxLocals = nL ∧ (xs x).vm.findClass own = some (xm x).cls ∧ ∀ w ∈ Ts, w.before (xa x) (xs x) = true) ∧ va_K g.1 vwCl (kty g) (xs x) ∧ (∀ q, (xs x).heap.size ≤ q → xA x q) ∧ xR x = rm ∧ (xt x).name = y.name ∧ (xt x).locks = false ∧ (xt x).sig.returnType = ret ∧ xg x = g ∧ xn x = nL
def lk : List (Nat × Value) → Nat → Option Value
  | [], _ => none
  | q :: l, i => cond (Nat.beq q.1 i) (some q.2) (lk l i)
theorem lk_mem : ∀ {l : List (Nat × Value)} {i : Nat} {v : Value}, lk l i = some v → (i, v) ∈ l
  | [], i, v, h => by cases h
  | q :: l, i, v, h => by
    unfold lk at h
    cases hb : Nat.beq q.1 i with
    | true =>
      rw [hb] at h
      cases h
      have := Nat.eq_of_beq_eq_true hb
      subst this
      exact List.mem_cons_self
    | false =>
      rw [hb] at h
      exact List.mem_cons_of_mem _ (lk_mem h)
theorem lk_at {ls : Array Slot} {nL : Nat} {l : List (Nat × Value)} (h : lv_has ls nL l) {i : Nat} {v : Value} (hk : lk l i = some v) : ls[i]? = some (.val v) := h.2.2 (i, v) (lk_mem hk)
def ok1 (i : Nat) (q : Nat × Value) : Bool := !(q.1 == i) && !(q.1 + 1 == i && q.2.category == 2)
def ok2 (i : Nat) (q : Nat × Value) : Bool := !(q.1 == i) && (!(q.1 == i + 1) && !(q.1 + 1 == i && q.2.category == 2))
def up {α : Type} (f : Nat → α) (k : Nat) (x : α) : Nat → α := fun j => cond (Nat.beq j k) x (f j)
theorem up_same {α : Type} (f : Nat → α) (k : Nat) (x : α) : up f k x k = x := by simp [up]
theorem up_ne {α : Type} {f : Nat → α} {k j : Nat} {x : α} (h : j ≠ k) : up f k x j = f j := by
  have : Nat.beq j k = false := by
    cases hb : Nat.beq j k with
    | false => rfl
    | true => exact absurd (Nat.eq_of_beq_eq_true hb) h
  simp [up, this]
/-- picks out of a list, by places -/
def pick (l : List (Nat × Value)) : List Nat → List (Nat × Value)
  | [] => []
  | k :: ks => match l[k]? with
    | some q => q :: pick l ks
    | none => pick l ks
theorem pick_mem {l : List (Nat × Value)} : ∀ {ks : List Nat} {q : Nat × Value}, q ∈ pick l ks → q ∈ l
  | [], q, h => by cases h
  | k :: ks, q, h => by
    unfold pick at h
    cases hk : l[k]? with
    | none => rw [hk] at h; exact pick_mem h
    | some z =>
      rw [hk] at h
      rcases List.mem_cons.mp h with e | e
      · subst e; exact List.mem_of_getElem? hk
      · exact pick_mem e
section ROWS
variable {x : Nx} {g : Gx} {cc : ByteArray} {own : String} {Ts : List Cond} {rm : Room} {y : MethodName} {ret : Option FieldType} {nL cells slots pc : Nat} {ws : va_W} {lv : List (Nat × Value)} {st : List Value}

theorem r_iconst (C : Cx x g cc own Ts rm y ret nL) {n : Int} {v : Int32} (hd : decode cc pc = .ok (.iconst n, 1)) (hv : Int32.ofInt n = v) (k : St x cells slots ws lv (.int v :: st) (pc + 1)) : St x cells slots ws lv (st) pc := fun H locs ls hP hD hS hl => lv_iconst C.1.1 C.1.2.1 hd hv (k H locs ls hP hD hS hl)
theorem r_bipush (C : Cx x g cc own Ts rm y ret nL) {n : Int} {v : Int32} (hd : decode cc pc = .ok (.bipush n, 2)) (hv : (Int8.ofInt n).toInt32 = v) (k : St x cells slots ws lv (.int v :: st) (pc + 2)) : St x cells slots ws lv (st) pc := fun H locs ls hP hD hS hl => lv_bipush C.1.1 C.1.2.1 hd hv (k H locs ls hP hD hS hl)
theorem r_sipush (C : Cx x g cc own Ts rm y ret nL) {n : Int} {v : Int32} (hd : decode cc pc = .ok (.sipush n, 3)) (hv : (Int16.ofInt n).toInt32 = v) (k : St x cells slots ws lv (.int v :: st) (pc + 3)) : St x cells slots ws lv (st) pc := fun H locs ls hP hD hS hl => lv_sipush C.1.1 C.1.2.1 hd hv (k H locs ls hP hD hS hl)
theorem r_lconst (C : Cx x g cc own Ts rm y ret nL) {n : Fin 2} {v : Int64} (hd : decode cc pc = .ok (.lconst n, 1)) (hv : Int64.ofNat (n : Nat) = v) (k : St x cells slots ws lv (.long v :: st) (pc + 1)) : St x cells slots ws lv (st) pc := fun H locs ls hP hD hS hl => lv_lconst C.1.1 C.1.2.1 hd hv (k H locs ls hP hD hS hl)
theorem r_null (C : Cx x g cc own Ts rm y ret nL)  (hd : decode cc pc = .ok (.aconst_null, 1))  (k : St x cells slots ws lv (.null :: st) (pc + 1)) : St x cells slots ws lv (st) pc := fun H locs ls hP hD hS hl => lv_null C.1.1 C.1.2.1 hd  (k H locs ls hP hD hS hl)
theorem r_iadd (C : Cx x g cc own Ts rm y ret nL) {a b : Int32} (hd : decode cc pc = .ok (.iadd, 1))  (k : St x cells slots ws lv (.int (a + b) :: st) (pc + 1)) : St x cells slots ws lv (.int b :: .int a :: st) pc := fun H locs ls hP hD hS hl => lv_iadd C.1.1 C.1.2.1 hd  (k H locs ls hP hD hS hl)
theorem r_isub (C : Cx x g cc own Ts rm y ret nL) {a b : Int32} (hd : decode cc pc = .ok (.isub, 1))  (k : St x cells slots ws lv (.int (a - b) :: st) (pc + 1)) : St x cells slots ws lv (.int b :: .int a :: st) pc := fun H locs ls hP hD hS hl => lv_isub C.1.1 C.1.2.1 hd  (k H locs ls hP hD hS hl)
theorem r_imul (C : Cx x g cc own Ts rm y ret nL) {a b : Int32} (hd : decode cc pc = .ok (.imul, 1))  (k : St x cells slots ws lv (.int (a * b) :: st) (pc + 1)) : St x cells slots ws lv (.int b :: .int a :: st) pc := fun H locs ls hP hD hS hl => lv_imul C.1.1 C.1.2.1 hd  (k H locs ls hP hD hS hl)
theorem r_iand (C : Cx x g cc own Ts rm y ret nL) {a b : Int32} (hd : decode cc pc = .ok (.iand, 1))  (k : St x cells slots ws lv (.int (a &&& b) :: st) (pc + 1)) : St x cells slots ws lv (.int b :: .int a :: st) pc := fun H locs ls hP hD hS hl => lv_iand C.1.1 C.1.2.1 hd  (k H locs ls hP hD hS hl)
theorem r_ior (C : Cx x g cc own Ts rm y ret nL) {a b : Int32} (hd : decode cc pc = .ok (.ior, 1))  (k : St x cells slots ws lv (.int (a ||| b) :: st) (pc + 1)) : St x cells slots ws lv (.int b :: .int a :: st) pc := fun H locs ls hP hD hS hl => lv_ior C.1.1 C.1.2.1 hd  (k H locs ls hP hD hS hl)
theorem r_ixor (C : Cx x g cc own Ts rm y ret nL) {a b : Int32} (hd : decode cc pc = .ok (.ixor, 1))  (k : St x cells slots ws lv (.int (a ^^^ b) :: st) (pc + 1)) : St x cells slots ws lv (.int b :: .int a :: st) pc := fun H locs ls hP hD hS hl => lv_ixor C.1.1 C.1.2.1 hd  (k H locs ls hP hD hS hl)
theorem r_ishl (C : Cx x g cc own Ts rm y ret nL) {a b : Int32} (hd : decode cc pc = .ok (.ishl, 1))  (k : St x cells slots ws lv (.int (a <<< (b &&& 31)) :: st) (pc + 1)) : St x cells slots ws lv (.int b :: .int a :: st) pc := fun H locs ls hP hD hS hl => lv_ishl C.1.1 C.1.2.1 hd  (k H locs ls hP hD hS hl)
theorem r_ishr (C : Cx x g cc own Ts rm y ret nL) {a b : Int32} (hd : decode cc pc = .ok (.ishr, 1))  (k : St x cells slots ws lv (.int (a >>> (b &&& 31)) :: st) (pc + 1)) : St x cells slots ws lv (.int b :: .int a :: st) pc := fun H locs ls hP hD hS hl => lv_ishr C.1.1 C.1.2.1 hd  (k H locs ls hP hD hS hl)
theorem r_ineg (C : Cx x g cc own Ts rm y ret nL) {a : Int32} (hd : decode cc pc = .ok (.ineg, 1))  (k : St x cells slots ws lv (.int (-a) :: st) (pc + 1)) : St x cells slots ws lv (.int a :: st) pc := fun H locs ls hP hD hS hl => lv_ineg C.1.1 C.1.2.1 hd  (k H locs ls hP hD hS hl)
theorem r_idiv (C : Cx x g cc own Ts rm y ret nL) {a b : Int32} (hd : decode cc pc = .ok (.idiv, 1)) (hne : ¬ b = 0) (k : St x cells slots ws lv (.int (a / b) :: st) (pc + 1)) : St x cells slots ws lv (.int b :: .int a :: st) pc := fun H locs ls hP hD hS hl => lv_idiv C.1.1 C.1.2.1 hd hne (k H locs ls hP hD hS hl)
theorem r_irem (C : Cx x g cc own Ts rm y ret nL) {a b : Int32} (hd : decode cc pc = .ok (.irem, 1)) (hne : ¬ b = 0) (k : St x cells slots ws lv (.int (a - a / b * b) :: st) (pc + 1)) : St x cells slots ws lv (.int b :: .int a :: st) pc := fun H locs ls hP hD hS hl => lv_irem C.1.1 C.1.2.1 hd hne (k H locs ls hP hD hS hl)
theorem r_iushr (C : Cx x g cc own Ts rm y ret nL) {a b : Int32} (hd : decode cc pc = .ok (.iushr, 1))  (k : St x cells slots ws lv (.int ((a.toUInt32 >>> (b.toUInt32 &&& Int32.toUInt32 31)).toInt32) :: st) (pc + 1)) : St x cells slots ws lv (.int b :: .int a :: st) pc := fun H locs ls hP hD hS hl => lv_iushr C.1.1 C.1.2.1 hd rfl (k H locs ls hP hD hS hl)
theorem r_land (C : Cx x g cc own Ts rm y ret nL) {a b : Int64} (hd : decode cc pc = .ok (.land, 1))  (k : St x cells slots ws lv (.long (a &&& b) :: st) (pc + 1)) : St x cells slots ws lv (.long b :: .long a :: st) pc := fun H locs ls hP hD hS hl => lv_land C.1.1 C.1.2.1 hd  (k H locs ls hP hD hS hl)
theorem r_lor (C : Cx x g cc own Ts rm y ret nL) {a b : Int64} (hd : decode cc pc = .ok (.lor, 1))  (k : St x cells slots ws lv (.long (a ||| b) :: st) (pc + 1)) : St x cells slots ws lv (.long b :: .long a :: st) pc := fun H locs ls hP hD hS hl => lv_lor C.1.1 C.1.2.1 hd  (k H locs ls hP hD hS hl)
theorem r_lxor (C : Cx x g cc own Ts rm y ret nL) {a b : Int64} (hd : decode cc pc = .ok (.lxor, 1))  (k : St x cells slots ws lv (.long (a ^^^ b) :: st) (pc + 1)) : St x cells slots ws lv (.long b :: .long a :: st) pc := fun H locs ls hP hD hS hl => lv_lxor C.1.1 C.1.2.1 hd  (k H locs ls hP hD hS hl)
theorem r_lshl (C : Cx x g cc own Ts rm y ret nL) {a : Int64} {b : Int32} (hd : decode cc pc = .ok (.lshl, 1))  (k : St x cells slots ws lv (.long (a <<< (b.toInt64 &&& 63)) :: st) (pc + 1)) : St x cells slots ws lv (.int b :: .long a :: st) pc := fun H locs ls hP hD hS hl => lv_lshl C.1.1 C.1.2.1 hd rfl (k H locs ls hP hD hS hl)
theorem r_lshr (C : Cx x g cc own Ts rm y ret nL) {a : Int64} {b : Int32} (hd : decode cc pc = .ok (.lshr, 1))  (k : St x cells slots ws lv (.long (a >>> (b.toInt64 &&& 63)) :: st) (pc + 1)) : St x cells slots ws lv (.int b :: .long a :: st) pc := fun H locs ls hP hD hS hl => lv_lshr C.1.1 C.1.2.1 hd rfl (k H locs ls hP hD hS hl)
theorem r_lushr (C : Cx x g cc own Ts rm y ret nL) {a : Int64} {b : Int32} (hd : decode cc pc = .ok (.lushr, 1))  (k : St x cells slots ws lv (.long ((a.toUInt64 >>> (b.toInt64.toUInt64 &&& Int64.toUInt64 63)).toInt64) :: st) (pc + 1)) : St x cells slots ws lv (.int b :: .long a :: st) pc := fun H locs ls hP hD hS hl => lv_lushr C.1.1 C.1.2.1 hd rfl (k H locs ls hP hD hS hl)
theorem r_l2i (C : Cx x g cc own Ts rm y ret nL) {a : Int64} (hd : decode cc pc = .ok (.l2i, 1))  (k : St x cells slots ws lv (.int a.toInt32 :: st) (pc + 1)) : St x cells slots ws lv (.long a :: st) pc := fun H locs ls hP hD hS hl => lv_l2i C.1.1 C.1.2.1 hd rfl (k H locs ls hP hD hS hl)
theorem r_i2b (C : Cx x g cc own Ts rm y ret nL) {a : Int32} (hd : decode cc pc = .ok (.i2b, 1))  (k : St x cells slots ws lv (.int a.toInt8.toInt32 :: st) (pc + 1)) : St x cells slots ws lv (.int a :: st) pc := fun H locs ls hP hD hS hl => lv_i2b C.1.1 C.1.2.1 hd rfl (k H locs ls hP hD hS hl)
theorem r_lcmp (C : Cx x g cc own Ts rm y ret nL) {a b : Int64} (hd : decode cc pc = .ok (.lcmp, 1))  (k : St x cells slots ws lv (.int (lg_cmp a b) :: st) (pc + 1)) : St x cells slots ws lv (.long b :: .long a :: st) pc := fun H locs ls hP hD hS hl => W.lcmp C.1.1 C.1.2.1 hd  (k H locs ls hP hD hS hl)
theorem r_dup (C : Cx x g cc own Ts rm y ret nL) {v : Value} (hd : decode cc pc = .ok (.dup, 1)) (hv : v.category = 1) (k : St x cells slots ws lv (v :: v :: st) (pc + 1)) : St x cells slots ws lv (v :: st) pc := fun H locs ls hP hD hS hl => lv_dup C.1.1 C.1.2.1 hd hv (k H locs ls hP hD hS hl)
theorem r_dup2 (C : Cx x g cc own Ts rm y ret nL) {v w : Value} (hd : decode cc pc = .ok (.dup2, 1)) (hv : v.category = 1) (hw : w.category = 1) (k : St x cells slots ws lv (v :: w :: v :: w :: st) (pc + 1)) : St x cells slots ws lv (v :: w :: st) pc := fun H locs ls hP hD hS hl => lv_dup2_11 C.1.1 C.1.2.1 hd hv hw (k H locs ls hP hD hS hl)
theorem r_pop2 (C : Cx x g cc own Ts rm y ret nL) {v : Int64} (hd : decode cc pc = .ok (.pop2, 1)) (k : St x cells slots ws lv st (pc + 1)) : St x cells slots ws lv (.long v :: st) pc := fun H locs ls hP hD hS hl => lv_pop2_2 C.1.1 C.1.2.1 hd rfl (k H locs ls hP hD hS hl)
theorem r_goto (C : Cx x g cc own Ts rm y ret nL) {off : Int} {tgt : Nat} (hd : decode cc pc = .ok (.goto off, 3)) (ht : (pc : Int) + off = (tgt : Int)) (k : St x cells slots ws lv st tgt) : St x cells slots ws lv st pc := fun H locs ls hP hD hS hl => lv_goto C.1.1 C.1.2.1 hd ht (k H locs ls hP hD hS hl)
theorem r_ldc (C : Cx x g cc own Ts rm y ret nL) {index : Nat} {v : Int32} (hc : Cond.constant own index v ∈ Ts) (hd : decode cc pc = .ok (.ldc index, 2)) (k : St x cells slots ws lv (.int v :: st) (pc + 2)) : St x cells slots ws lv st pc := fun H locs ls hP hD hS hl => lv_ldc C.1.1 C.1.2.1 C.1.2.2.2.1 (C.1.2.2.2.2 _ hc) hd (k H locs ls hP hD hS hl)
theorem r_ldcw (C : Cx x g cc own Ts rm y ret nL) {index : Nat} {v : Int32} (hc : Cond.constant own index v ∈ Ts) (hd : decode cc pc = .ok (.ldc_w index, 3)) (k : St x cells slots ws lv (.int v :: st) (pc + 3)) : St x cells slots ws lv st pc := fun H locs ls hP hD hS hl => lv_ldcw C.1.1 C.1.2.1 C.1.2.2.2.1 (C.1.2.2.2.2 _ hc) hd (k H locs ls hP hD hS hl)
theorem r_ldc2 (C : Cx x g cc own Ts rm y ret nL) {index : Nat} {v : Int64} (hc : Cond.constantLong own index v ∈ Ts) (hd : decode cc pc = .ok (.ldc2_w index, 3)) (k : St x cells slots ws lv (.long v :: st) (pc + 3)) : St x cells slots ws lv st pc := fun H locs ls hP hD hS hl => lv_ldc2 C.1.1 C.1.2.1 C.1.2.2.2.1 (C.1.2.2.2.2 _ hc) hd (k H locs ls hP hD hS hl)
theorem r_topi {a : Int32} (k : ∀ z : Int32, z = a → St x cells slots ws lv (.int z :: st) pc) : St x cells slots ws lv (.int a :: st) pc := k a rfl
theorem r_topl {a : Int64} (k : ∀ z : Int64, z = a → St x cells slots ws lv (.long z :: st) pc) : St x cells slots ws lv (.long a :: st) pc := k a rfl
theorem r_sub (ks : List Nat) {lv' : List (Nat × Value)} (h : pick lv ks = lv') (k : St x cells slots ws lv' st pc) : St x cells slots ws lv st pc := fun H locs ls hP hD hS hl => k H locs ls hP hD hS ⟨hl.1, hl.2.1, fun q hq => hl.2.2 q (pick_mem (by rw [h]; exact hq))⟩
theorem r_iload_n (C : Cx x g cc own Ts rm y ret nL) {k : Fin 4} {v : Int32} (hd : decode cc pc = .ok (.iload_n k, 1)) (hk : lk lv (k : Nat) = some (.int v)) (kk : St x cells slots ws lv (.int v :: st) (pc + 1)) : St x cells slots ws lv st pc := fun H locs ls hP hD hS hl => lv_iload_n C.1.1 C.1.2.1 hd rfl (lk_at hl hk) (kk H locs ls hP hD hS hl)
theorem r_iload (C : Cx x g cc own Ts rm y ret nL) {i : Nat} {v : Int32} (hd : decode cc pc = .ok (.iload i, 2)) (hk : lk lv i = some (.int v)) (kk : St x cells slots ws lv (.int v :: st) (pc + 2)) : St x cells slots ws lv st pc := fun H locs ls hP hD hS hl => lv_iload C.1.1 C.1.2.1 hd (lk_at hl hk) (kk H locs ls hP hD hS hl)
theorem r_lload_n (C : Cx x g cc own Ts rm y ret nL) {k : Fin 4} {v : Int64} (hd : decode cc pc = .ok (.lload_n k, 1)) (hk : lk lv (k : Nat) = some (.long v)) (kk : St x cells slots ws lv (.long v :: st) (pc + 1)) : St x cells slots ws lv st pc := fun H locs ls hP hD hS hl => lv_lload_n C.1.1 C.1.2.1 hd rfl (lk_at hl hk) (kk H locs ls hP hD hS hl)
theorem r_lload (C : Cx x g cc own Ts rm y ret nL) {i : Nat} {v : Int64} (hd : decode cc pc = .ok (.lload i, 2)) (hk : lk lv i = some (.long v)) (kk : St x cells slots ws lv (.long v :: st) (pc + 2)) : St x cells slots ws lv st pc := fun H locs ls hP hD hS hl => lv_lload C.1.1 C.1.2.1 hd (lk_at hl hk) (kk H locs ls hP hD hS hl)
theorem r_aload_n (C : Cx x g cc own Ts rm y ret nL) {k : Fin 4} {v : Nat} (hd : decode cc pc = .ok (.aload_n k, 1)) (hk : lk lv (k : Nat) = some (.ref v)) (kk : St x cells slots ws lv (.ref v :: st) (pc + 1)) : St x cells slots ws lv st pc := fun H locs ls hP hD hS hl => lv_aload_n C.1.1 C.1.2.1 hd rfl (lk_at hl hk) (kk H locs ls hP hD hS hl)
theorem r_aload (C : Cx x g cc own Ts rm y ret nL) {i : Nat} {v : Nat} (hd : decode cc pc = .ok (.aload i, 2)) (hk : lk lv i = some (.ref v)) (kk : St x cells slots ws lv (.ref v :: st) (pc + 2)) : St x cells slots ws lv st pc := fun H locs ls hP hD hS hl => lv_aload C.1.1 C.1.2.1 hd (lk_at hl hk) (kk H locs ls hP hD hS hl)
theorem r_aload_nN (C : Cx x g cc own Ts rm y ret nL) {k : Fin 4} (hd : decode cc pc = .ok (.aload_n k, 1)) (hk : lk lv (k : Nat) = some .null) (kk : St x cells slots ws lv (.null :: st) (pc + 1)) : St x cells slots ws lv st pc := fun H locs ls hP hD hS hl => lv_aload_nN C.1.1 C.1.2.1 hd rfl (lk_at hl hk) (kk H locs ls hP hD hS hl)
theorem r_aloadN (C : Cx x g cc own Ts rm y ret nL) {i : Nat} (hd : decode cc pc = .ok (.aload i, 2)) (hk : lk lv i = some .null) (kk : St x cells slots ws lv (.null :: st) (pc + 2)) : St x cells slots ws lv st pc := fun H locs ls hP hD hS hl => lv_aloadN C.1.1 C.1.2.1 hd (lk_at hl hk) (kk H locs ls hP hD hS hl)
theorem st_sub1 {ls : Array Slot} {n i : Nat} {v : Value} {l l' : List (Nat × Value)} (h : lv_has ls n ((i, v) :: l.filter (fun q => !(q.1 == i) && !(q.1 + 1 == i && q.2.category == 2)))) (hs : ∀ q ∈ l', q = (i, v) ∨ (q ∈ l ∧ ok1 i q = true)) : lv_has ls n l' := by
  refine ⟨h.1, h.2.1, fun q hq => h.2.2 q ?_⟩
  rcases hs q hq with e | ⟨e, e2⟩
  · rw [e]; exact List.mem_cons_self
  · exact List.mem_cons_of_mem _ (List.mem_filter.mpr ⟨e, e2⟩)
theorem st_sub2 {ls : Array Slot} {n i : Nat} {v : Value} {l l' : List (Nat × Value)} (h : lv_has ls n ((i, v) :: l.filter (fun q => !(q.1 == i) && (!(q.1 == i + 1) && !(q.1 + 1 == i && q.2.category == 2))))) (hs : ∀ q ∈ l', q = (i, v) ∨ (q ∈ l ∧ ok2 i q = true)) : lv_has ls n l' := by
  refine ⟨h.1, h.2.1, fun q hq => h.2.2 q ?_⟩
  rcases hs q hq with e | ⟨e, e2⟩
  · rw [e]; exact List.mem_cons_self
  · exact List.mem_cons_of_mem _ (List.mem_filter.mpr ⟨e, e2⟩)
/-- the locals behind a store: the new one at its place p in the list, the others out of the old list's places ks -/
def sto (i : Nat) (v : Value) (l : List (Nat × Value)) : List (Option Nat) → List (Nat × Value)
  | [] => []
  | none :: ks => (i, v) :: sto i v l ks
  | some k :: ks => match l[k]? with
    | some q => q :: sto i v l ks
    | none => sto i v l ks
def sto_ok (f : Nat × Value → Bool) (l : List (Nat × Value)) : List (Option Nat) → Bool
  | [] => true
  | none :: ks => sto_ok f l ks
  | some k :: ks => match l[k]? with
    | some q => f q && sto_ok f l ks
    | none => sto_ok f l ks
theorem sto_mem {i : Nat} {v : Value} {l : List (Nat × Value)} {f : Nat × Value → Bool} : ∀ {ks : List (Option Nat)} {q : Nat × Value}, sto_ok f l ks = true → q ∈ sto i v l ks → q = (i, v) ∨ (q ∈ l ∧ f q = true)
  | [], q, _, h => by cases h
  | none :: ks, q, ho, h => by
    rcases List.mem_cons.mp h with e | e
    · exact Or.inl e
    · exact sto_mem (ks := ks) ho e
  | some k :: ks, q, ho, h => by
    unfold sto at h
    unfold sto_ok at ho
    cases hk : l[k]? with
    | none => rw [hk] at h ho; exact sto_mem ho h
    | some z =>
      rw [hk] at h ho
      rw [Bool.and_eq_true] at ho
      rcases List.mem_cons.mp h with e | e
      · subst e; exact Or.inr ⟨List.mem_of_getElem? hk, ho.1⟩
      · exact sto_mem ho.2 e
theorem r_istore_n (C : Cx x g cc own Ts rm y ret nL) {k : Fin 4} {v : Int32} (hd : decode cc pc = .ok (.istore_n k, 1)) (ks : List (Option Nat)) (hn : (k : Nat) < nL) (ho : sto_ok (ok1 (k : Nat)) lv ks = true) {lv' : List (Nat × Value)} (hl' : sto (k : Nat) (.int v) lv ks = lv') (kk : St x cells slots ws lv' st (pc + 1)) : St x cells slots ws lv (.int v :: st) pc := fun H locs ls hP hD hS hl => lv_istore_n C.1.1 C.1.2.1 hd rfl hl (by rw [C.2.2.2.2.2.2.2.2]; exact hn) rfl (fun ls' h => kk H locs ls' hP hD hS (st_sub1 h (fun q hq => sto_mem ho (by rw [hl']; exact hq))))
theorem r_istore (C : Cx x g cc own Ts rm y ret nL) {i : Nat} {v : Int32} (hd : decode cc pc = .ok (.istore i, 2)) (ks : List (Option Nat)) (hn : i < nL) (ho : sto_ok (ok1 i) lv ks = true) {lv' : List (Nat × Value)} (hl' : sto i (.int v) lv ks = lv') (kk : St x cells slots ws lv' st (pc + 2)) : St x cells slots ws lv (.int v :: st) pc := fun H locs ls hP hD hS hl => lv_istore C.1.1 C.1.2.1 hd hl (by rw [C.2.2.2.2.2.2.2.2]; exact hn) rfl (fun ls' h => kk H locs ls' hP hD hS (st_sub1 h (fun q hq => sto_mem ho (by rw [hl']; exact hq))))
theorem r_astore_n (C : Cx x g cc own Ts rm y ret nL) {k : Fin 4} {v : Nat} (hd : decode cc pc = .ok (.astore_n k, 1)) (ks : List (Option Nat)) (hn : (k : Nat) < nL) (ho : sto_ok (ok1 (k : Nat)) lv ks = true) {lv' : List (Nat × Value)} (hl' : sto (k : Nat) (.ref v) lv ks = lv') (kk : St x cells slots ws lv' st (pc + 1)) : St x cells slots ws lv (.ref v :: st) pc := fun H locs ls hP hD hS hl => lv_astore_n C.1.1 C.1.2.1 hd rfl hl (by rw [C.2.2.2.2.2.2.2.2]; exact hn) rfl (fun ls' h => kk H locs ls' hP hD hS (st_sub1 h (fun q hq => sto_mem ho (by rw [hl']; exact hq))))
theorem r_astore (C : Cx x g cc own Ts rm y ret nL) {i : Nat} {v : Nat} (hd : decode cc pc = .ok (.astore i, 2)) (ks : List (Option Nat)) (hn : i < nL) (ho : sto_ok (ok1 i) lv ks = true) {lv' : List (Nat × Value)} (hl' : sto i (.ref v) lv ks = lv') (kk : St x cells slots ws lv' st (pc + 2)) : St x cells slots ws lv (.ref v :: st) pc := fun H locs ls hP hD hS hl => lv_astore C.1.1 C.1.2.1 hd hl (by rw [C.2.2.2.2.2.2.2.2]; exact hn) rfl (fun ls' h => kk H locs ls' hP hD hS (st_sub1 h (fun q hq => sto_mem ho (by rw [hl']; exact hq))))
theorem r_astore_nN (C : Cx x g cc own Ts rm y ret nL) {k : Fin 4} (hd : decode cc pc = .ok (.astore_n k, 1)) (ks : List (Option Nat)) (hn : (k : Nat) < nL) (ho : sto_ok (ok1 (k : Nat)) lv ks = true) {lv' : List (Nat × Value)} (hl' : sto (k : Nat) (.null) lv ks = lv') (kk : St x cells slots ws lv' st (pc + 1)) : St x cells slots ws lv (.null :: st) pc := fun H locs ls hP hD hS hl => lv_astore_nN C.1.1 C.1.2.1 hd rfl hl (by rw [C.2.2.2.2.2.2.2.2]; exact hn) rfl (fun ls' h => kk H locs ls' hP hD hS (st_sub1 h (fun q hq => sto_mem ho (by rw [hl']; exact hq))))
theorem r_astoreN (C : Cx x g cc own Ts rm y ret nL) {i : Nat} (hd : decode cc pc = .ok (.astore i, 2)) (ks : List (Option Nat)) (hn : i < nL) (ho : sto_ok (ok1 i) lv ks = true) {lv' : List (Nat × Value)} (hl' : sto i (.null) lv ks = lv') (kk : St x cells slots ws lv' st (pc + 2)) : St x cells slots ws lv (.null :: st) pc := fun H locs ls hP hD hS hl => lv_astoreN C.1.1 C.1.2.1 hd hl (by rw [C.2.2.2.2.2.2.2.2]; exact hn) rfl (fun ls' h => kk H locs ls' hP hD hS (st_sub1 h (fun q hq => sto_mem ho (by rw [hl']; exact hq))))
theorem r_lstore_n (C : Cx x g cc own Ts rm y ret nL) {k : Fin 4} {v : Int64} (hd : decode cc pc = .ok (.lstore_n k, 1)) (ks : List (Option Nat)) (hn : (k : Nat) + 1 < nL) (ho : sto_ok (ok2 (k : Nat)) lv ks = true) {lv' : List (Nat × Value)} (hl' : sto (k : Nat) (.long v) lv ks = lv') (kk : St x cells slots ws lv' st (pc + 1)) : St x cells slots ws lv (.long v :: st) pc := fun H locs ls hP hD hS hl => lv_lstore_n C.1.1 C.1.2.1 hd rfl hl (by rw [C.2.2.2.2.2.2.2.2]; exact hn) rfl (fun ls' h => kk H locs ls' hP hD hS (st_sub2 h (fun q hq => sto_mem ho (by rw [hl']; exact hq))))
theorem r_lstore (C : Cx x g cc own Ts rm y ret nL) {i : Nat} {v : Int64} (hd : decode cc pc = .ok (.lstore i, 2)) (ks : List (Option Nat)) (hn : i + 1 < nL) (ho : sto_ok (ok2 i) lv ks = true) {lv' : List (Nat × Value)} (hl' : sto i (.long v) lv ks = lv') (kk : St x cells slots ws lv' st (pc + 2)) : St x cells slots ws lv (.long v :: st) pc := fun H locs ls hP hD hS hl => lv_lstore C.1.1 C.1.2.1 hd hl (by rw [C.2.2.2.2.2.2.2.2]; exact hn) rfl (fun ls' h => kk H locs ls' hP hD hS (st_sub2 h (fun q hq => sto_mem ho (by rw [hl']; exact hq))))
theorem lk_place {l : List (Nat × Value)} {i : Nat} {v : Value} (h : lk l i = some v) : ∃ k : Nat, l[k]? = some (i, v) := List.getElem?_of_mem (lk_mem h)
theorem r_iinc (C : Cx x g cc own Ts rm y ret nL) {i : Nat} {n : Int} {a v : Int32} (hd : decode cc pc = .ok (.iinc i n, 3)) (hk : lk lv i = some (.int a)) (hv : a + Int32.ofInt n = v) (ks : List (Option Nat)) (hn : i < nL) (ho : sto_ok (ok1 i) lv ks = true) {lv' : List (Nat × Value)} (hl' : sto i (.int v) lv ks = lv') (kk : St x cells slots ws lv' st (pc + 3)) : St x cells slots ws lv st pc := fun H locs ls hP hD hS hl => by
  obtain ⟨k, hk⟩ := lk_place hk
  exact lv_iinc C.1.1 C.1.2.1 hd hl hk hv (by rw [C.2.2.2.2.2.2.2.2]; exact hn) rfl (fun ls' h => kk H locs ls' hP hD hS (st_sub1 h (fun q hq => sto_mem ho (by rw [hl']; exact hq))))
theorem r_if_eq (C : Cx x g cc own Ts rm y ret nL) {a : Int32} {off : Int} {tgt : Nat} (hd : decode cc pc = .ok (.ifCond .eq off, 3)) (ht : (pc : Int) + off = (tgt : Int)) (kt : a = 0 → St x cells slots ws lv st tgt) (kf : ¬ a = 0 → St x cells slots ws lv st (pc + 3)) : St x cells slots ws lv (.int a :: st) pc := fun H locs ls hP hD hS hl => lv_if_eq C.1.1 C.1.2.1 hd ht (fun h => kt h H locs ls hP hD hS hl) (fun h => kf h H locs ls hP hD hS hl)
theorem r_if_ne (C : Cx x g cc own Ts rm y ret nL) {a : Int32} {off : Int} {tgt : Nat} (hd : decode cc pc = .ok (.ifCond .ne off, 3)) (ht : (pc : Int) + off = (tgt : Int)) (kt : ¬ a = 0 → St x cells slots ws lv st tgt) (kf : a = 0 → St x cells slots ws lv st (pc + 3)) : St x cells slots ws lv (.int a :: st) pc := fun H locs ls hP hD hS hl => lv_if_ne C.1.1 C.1.2.1 hd ht (fun h => kt h H locs ls hP hD hS hl) (fun h => kf h H locs ls hP hD hS hl)
theorem r_if_lt (C : Cx x g cc own Ts rm y ret nL) {a : Int32} {off : Int} {tgt : Nat} (hd : decode cc pc = .ok (.ifCond .lt off, 3)) (ht : (pc : Int) + off = (tgt : Int)) (kt : a < 0 → St x cells slots ws lv st tgt) (kf : ¬ a < 0 → St x cells slots ws lv st (pc + 3)) : St x cells slots ws lv (.int a :: st) pc := fun H locs ls hP hD hS hl => lv_if_lt C.1.1 C.1.2.1 hd ht (fun h => kt h H locs ls hP hD hS hl) (fun h => kf h H locs ls hP hD hS hl)
theorem r_if_ge (C : Cx x g cc own Ts rm y ret nL) {a : Int32} {off : Int} {tgt : Nat} (hd : decode cc pc = .ok (.ifCond .ge off, 3)) (ht : (pc : Int) + off = (tgt : Int)) (kt : 0 ≤ a → St x cells slots ws lv st tgt) (kf : ¬ 0 ≤ a → St x cells slots ws lv st (pc + 3)) : St x cells slots ws lv (.int a :: st) pc := fun H locs ls hP hD hS hl => lv_if_ge C.1.1 C.1.2.1 hd ht (fun h => kt h H locs ls hP hD hS hl) (fun h => kf h H locs ls hP hD hS hl)
theorem r_if_gt (C : Cx x g cc own Ts rm y ret nL) {a : Int32} {off : Int} {tgt : Nat} (hd : decode cc pc = .ok (.ifCond .gt off, 3)) (ht : (pc : Int) + off = (tgt : Int)) (kt : 0 < a → St x cells slots ws lv st tgt) (kf : ¬ 0 < a → St x cells slots ws lv st (pc + 3)) : St x cells slots ws lv (.int a :: st) pc := fun H locs ls hP hD hS hl => lv_if_gt C.1.1 C.1.2.1 hd ht (fun h => kt h H locs ls hP hD hS hl) (fun h => kf h H locs ls hP hD hS hl)
theorem r_if_le (C : Cx x g cc own Ts rm y ret nL) {a : Int32} {off : Int} {tgt : Nat} (hd : decode cc pc = .ok (.ifCond .le off, 3)) (ht : (pc : Int) + off = (tgt : Int)) (kt : a ≤ 0 → St x cells slots ws lv st tgt) (kf : ¬ a ≤ 0 → St x cells slots ws lv st (pc + 3)) : St x cells slots ws lv (.int a :: st) pc := fun H locs ls hP hD hS hl => lv_if_le C.1.1 C.1.2.1 hd ht (fun h => kt h H locs ls hP hD hS hl) (fun h => kf h H locs ls hP hD hS hl)
theorem r_icmp_eq (C : Cx x g cc own Ts rm y ret nL) {a b : Int32} {off : Int} {tgt : Nat} (hd : decode cc pc = .ok (.if_icmp .eq off, 3)) (ht : (pc : Int) + off = (tgt : Int)) (kt : a = b → St x cells slots ws lv st tgt) (kf : ¬ a = b → St x cells slots ws lv st (pc + 3)) : St x cells slots ws lv (.int b :: .int a :: st) pc := fun H locs ls hP hD hS hl => lv_icmp_eq C.1.1 C.1.2.1 hd ht (fun h => kt h H locs ls hP hD hS hl) (fun h => kf h H locs ls hP hD hS hl)
theorem r_icmp_ne (C : Cx x g cc own Ts rm y ret nL) {a b : Int32} {off : Int} {tgt : Nat} (hd : decode cc pc = .ok (.if_icmp .ne off, 3)) (ht : (pc : Int) + off = (tgt : Int)) (kt : ¬ a = b → St x cells slots ws lv st tgt) (kf : a = b → St x cells slots ws lv st (pc + 3)) : St x cells slots ws lv (.int b :: .int a :: st) pc := fun H locs ls hP hD hS hl => lv_icmp_ne C.1.1 C.1.2.1 hd ht (fun h => kt h H locs ls hP hD hS hl) (fun h => kf h H locs ls hP hD hS hl)
theorem r_icmp_lt (C : Cx x g cc own Ts rm y ret nL) {a b : Int32} {off : Int} {tgt : Nat} (hd : decode cc pc = .ok (.if_icmp .lt off, 3)) (ht : (pc : Int) + off = (tgt : Int)) (kt : a < b → St x cells slots ws lv st tgt) (kf : ¬ a < b → St x cells slots ws lv st (pc + 3)) : St x cells slots ws lv (.int b :: .int a :: st) pc := fun H locs ls hP hD hS hl => lv_icmp_lt C.1.1 C.1.2.1 hd ht (fun h => kt h H locs ls hP hD hS hl) (fun h => kf h H locs ls hP hD hS hl)
theorem r_icmp_ge (C : Cx x g cc own Ts rm y ret nL) {a b : Int32} {off : Int} {tgt : Nat} (hd : decode cc pc = .ok (.if_icmp .ge off, 3)) (ht : (pc : Int) + off = (tgt : Int)) (kt : b ≤ a → St x cells slots ws lv st tgt) (kf : ¬ b ≤ a → St x cells slots ws lv st (pc + 3)) : St x cells slots ws lv (.int b :: .int a :: st) pc := fun H locs ls hP hD hS hl => lv_icmp_ge C.1.1 C.1.2.1 hd ht (fun h => kt h H locs ls hP hD hS hl) (fun h => kf h H locs ls hP hD hS hl)
theorem r_icmp_gt (C : Cx x g cc own Ts rm y ret nL) {a b : Int32} {off : Int} {tgt : Nat} (hd : decode cc pc = .ok (.if_icmp .gt off, 3)) (ht : (pc : Int) + off = (tgt : Int)) (kt : b < a → St x cells slots ws lv st tgt) (kf : ¬ b < a → St x cells slots ws lv st (pc + 3)) : St x cells slots ws lv (.int b :: .int a :: st) pc := fun H locs ls hP hD hS hl => lv_icmp_gt C.1.1 C.1.2.1 hd ht (fun h => kt h H locs ls hP hD hS hl) (fun h => kf h H locs ls hP hD hS hl)
theorem r_icmp_le (C : Cx x g cc own Ts rm y ret nL) {a b : Int32} {off : Int} {tgt : Nat} (hd : decode cc pc = .ok (.if_icmp .le off, 3)) (ht : (pc : Int) + off = (tgt : Int)) (kt : a ≤ b → St x cells slots ws lv st tgt) (kf : ¬ a ≤ b → St x cells slots ws lv st (pc + 3)) : St x cells slots ws lv (.int b :: .int a :: st) pc := fun H locs ls hP hD hS hl => lv_icmp_le C.1.1 C.1.2.1 hd ht (fun h => kt h H locs ls hP hD hS hl) (fun h => kf h H locs ls hP hD hS hl)
theorem r_lcmp_eq (C : Cx x g cc own Ts rm y ret nL) {a b : Int64} {off : Int} {tgt : Nat} (hd : decode cc pc = .ok (.lcmp, 1)) (hd2 : decode cc (pc + 1) = .ok (.ifCond .eq off, 3)) (ht : ((pc + 1 : Nat) : Int) + off = (tgt : Int)) (kt : a = b → St x cells slots ws lv st tgt) (kf : ¬ a = b → St x cells slots ws lv st (pc + 1 + 3)) : St x cells slots ws lv (.long b :: .long a :: st) pc := r_lcmp C hd (r_if_eq C hd2 ht (fun h => kt ((lg_cmp_eq a b).mp h)) (fun h => kf (fun e => h ((lg_cmp_eq a b).mpr e))))
theorem r_lcmp_ne (C : Cx x g cc own Ts rm y ret nL) {a b : Int64} {off : Int} {tgt : Nat} (hd : decode cc pc = .ok (.lcmp, 1)) (hd2 : decode cc (pc + 1) = .ok (.ifCond .ne off, 3)) (ht : ((pc + 1 : Nat) : Int) + off = (tgt : Int)) (kt : ¬ a = b → St x cells slots ws lv st tgt) (kf : a = b → St x cells slots ws lv st (pc + 1 + 3)) : St x cells slots ws lv (.long b :: .long a :: st) pc := r_lcmp C hd (r_if_ne C hd2 ht (fun h => kt (fun e => h ((lg_cmp_eq a b).mpr e))) (fun h => kf ((lg_cmp_eq a b).mp h)))
theorem r_lcmp_lt (C : Cx x g cc own Ts rm y ret nL) {a b : Int64} {off : Int} {tgt : Nat} (hd : decode cc pc = .ok (.lcmp, 1)) (hd2 : decode cc (pc + 1) = .ok (.ifCond .lt off, 3)) (ht : ((pc + 1 : Nat) : Int) + off = (tgt : Int)) (kt : a < b → St x cells slots ws lv st tgt) (kf : ¬ a < b → St x cells slots ws lv st (pc + 1 + 3)) : St x cells slots ws lv (.long b :: .long a :: st) pc := r_lcmp C hd (r_if_lt C hd2 ht (fun h => kt ((lg_cmp_lt a b).mp h)) (fun h => kf (fun e => h ((lg_cmp_lt a b).mpr e))))
theorem r_lcmp_ge (C : Cx x g cc own Ts rm y ret nL) {a b : Int64} {off : Int} {tgt : Nat} (hd : decode cc pc = .ok (.lcmp, 1)) (hd2 : decode cc (pc + 1) = .ok (.ifCond .ge off, 3)) (ht : ((pc + 1 : Nat) : Int) + off = (tgt : Int)) (kt : b ≤ a → St x cells slots ws lv st tgt) (kf : ¬ b ≤ a → St x cells slots ws lv st (pc + 1 + 3)) : St x cells slots ws lv (.long b :: .long a :: st) pc := r_lcmp C hd (r_if_ge C hd2 ht (fun h => kt ((lg_cmp_ge a b).mp h)) (fun h => kf (fun e => h ((lg_cmp_ge a b).mpr e))))
theorem r_lcmp_gt (C : Cx x g cc own Ts rm y ret nL) {a b : Int64} {off : Int} {tgt : Nat} (hd : decode cc pc = .ok (.lcmp, 1)) (hd2 : decode cc (pc + 1) = .ok (.ifCond .gt off, 3)) (ht : ((pc + 1 : Nat) : Int) + off = (tgt : Int)) (kt : b < a → St x cells slots ws lv st tgt) (kf : ¬ b < a → St x cells slots ws lv st (pc + 1 + 3)) : St x cells slots ws lv (.long b :: .long a :: st) pc := r_lcmp C hd (r_if_gt C hd2 ht (fun h => kt ((lg_cmp_gt a b).mp h)) (fun h => kf (fun e => h ((lg_cmp_gt a b).mpr e))))
theorem r_lcmp_le (C : Cx x g cc own Ts rm y ret nL) {a b : Int64} {off : Int} {tgt : Nat} (hd : decode cc pc = .ok (.lcmp, 1)) (hd2 : decode cc (pc + 1) = .ok (.ifCond .le off, 3)) (ht : ((pc + 1 : Nat) : Int) + off = (tgt : Int)) (kt : a ≤ b → St x cells slots ws lv st tgt) (kf : ¬ a ≤ b → St x cells slots ws lv st (pc + 1 + 3)) : St x cells slots ws lv (.long b :: .long a :: st) pc := r_lcmp C hd (r_if_le C hd2 ht (fun h => kt ((lg_cmp_le a b).mp h)) (fun h => kf (fun e => h ((lg_cmp_le a b).mpr e))))
theorem r_ifnull (C : Cx x g cc own Ts rm y ret nL) {a : Nat} {off : Int} (hd : decode cc pc = .ok (.ifnull off, 3)) (k : St x cells slots ws lv st (pc + 3)) : St x cells slots ws lv (.ref a :: st) pc := fun H locs ls hP hD hS hl => lv_ifnull C.1.1 C.1.2.1 hd (k H locs ls hP hD hS hl)
theorem r_ifnonnull (C : Cx x g cc own Ts rm y ret nL) {a : Nat} {off : Int} {tgt : Nat} (hd : decode cc pc = .ok (.ifnonnull off, 3)) (ht : (pc : Int) + off = (tgt : Int)) (k : St x cells slots ws lv st tgt) : St x cells slots ws lv (.ref a :: st) pc := fun H locs ls hP hD hS hl => lv_ifnonnull C.1.1 C.1.2.1 hd ht (k H locs ls hP hD hS hl)
theorem r_ifnullN (C : Cx x g cc own Ts rm y ret nL) {off : Int} {tgt : Nat} (hd : decode cc pc = .ok (.ifnull off, 3)) (ht : (pc : Int) + off = (tgt : Int)) (k : St x cells slots ws lv st tgt) : St x cells slots ws lv (.null :: st) pc := fun H locs ls hP hD hS hl => lv_ifnullN C.1.1 C.1.2.1 hd ht (k H locs ls hP hD hS hl)
theorem r_ifnonnullN (C : Cx x g cc own Ts rm y ret nL) {off : Int} (hd : decode cc pc = .ok (.ifnonnull off, 3)) (k : St x cells slots ws lv st (pc + 3)) : St x cells slots ws lv (.null :: st) pc := fun H locs ls hP hD hS hl => lv_ifnonnullN C.1.1 C.1.2.1 hd (k H locs ls hP hD hS hl)
theorem r_tableOut (C : Cx x g cc own Ts rm y ret nL) {dflt lo hi : Int} {offs : Array Int} {len : Nat} {a : Int32} {tgt : Nat} (hd : decode cc pc = .ok (.tableswitch dflt lo hi offs, len)) (h : a.toInt < lo ∨ hi < a.toInt) (ht : (pc : Int) + dflt = (tgt : Int)) (k : St x cells slots ws lv st tgt) : St x cells slots ws lv (.int a :: st) pc := fun H locs ls hP hD hS hl => lv_tableOut C.1.1 C.1.2.1 hd h ht (k H locs ls hP hD hS hl)
theorem r_tableIn (C : Cx x g cc own Ts rm y ret nL) {dflt lo hi : Int} {offs : Array Int} {len : Nat} {a : Int32} {off : Int} {tgt : Nat} (hd : decode cc pc = .ok (.tableswitch dflt lo hi offs, len)) (h1 : ¬ a.toInt < lo) (h2 : ¬ hi < a.toInt) (ho : offs[(a.toInt - lo).toNat]? = some off) (ht : (pc : Int) + off = (tgt : Int)) (k : St x cells slots ws lv st tgt) : St x cells slots ws lv (.int a :: st) pc := fun H locs ls hP hD hS hl => lv_tableIn C.1.1 C.1.2.1 hd h1 h2 ho ht (k H locs ls hP hD hS hl)
theorem r_lookup (C : Cx x g cc own Ts rm y ret nL) {dflt : Int} {ps : Array (Int × Int)} {len : Nat} {a : Int32} {off : Int} {tgt : Nat} (hd : decode cc pc = .ok (.lookupswitch dflt ps, len)) (hp : (ps.toList.zip (ps.toList.drop 1)).all (fun (a, next) => a.1 < next.1) = true) (ho : Op.lookupswitch.offset ps.toList dflt a.toInt = off) (ht : (pc : Int) + off = (tgt : Int)) (k : St x cells slots ws lv st tgt) : St x cells slots ws lv (.int a :: st) pc := fun H locs ls hP hD hS hl => lv_lookup C.1.1 C.1.2.1 hd hp ho ht (k H locs ls hP hD hS hl)
theorem r_mmax (C : Cx x g cc own Ts rm y ret nL) {index : Nat} (hlink : Cond.methodLink own index Lib.Math.max.name ∈ Ts) (hstat : Cond.static Lib.Math.max.name ∈ Ts) (hini : Cond.initialized "java/lang/Math" ∈ Ts) (hcode : Cond.code Lib.Math.max.name Lib.Math.max.code 2 (some .int) ∈ Ts) (hframes : 1 ≤ rm.frames) (hlocals : (st.map fun v => v.category).sum + 13 ≤ rm.locals) (hc : cells ≤ rm.cells) (hs : slots ≤ rm.slots) {a b : Int32} (hd : decode cc pc = .ok (.invokestatic index, 3)) (k : St x cells slots ws lv (.int (if a < b then b else a) :: st) (pc + 3)) : St x cells slots ws lv (.int b :: .int a :: st) pc := fun H locs ls hP hD hS hl => va_mmax C.1.1 C.1.2.1 (by rw [C.1.2.2.1, hl.1, C.2.2.2.2.2.2.2.2]) C.1.2.2.2.1 (C.1.2.2.2.2 _ hlink) (C.1.2.2.2.2 _ hstat) (C.1.2.2.2.2 _ hini) (C.1.2.2.2.2 _ hcode) (by rw [C.2.2.2.1]; exact hframes) (by rw [C.2.2.2.1]; exact hlocals) (by rw [C.2.2.2.1]; exact hc) (by rw [C.2.2.2.1]; exact hs) hd (k H locs ls hP hD hS hl)
/-- fields -/
theorem r_get (C : Cx x g cc own Ts rm y ret nL) {cn : String} {T : u_T} {N ci index a : Nat} (hin : ∀ w ∈ u_ws cn T N, w ∈ Ts) (q0 : Nat) {fs : List Value} (he : ws[q0]? = some (a, .inr (ci, fs))) (hc : vwCl[ci]? = some (cn, T, N)) (k : Nat) (hk : k < N) (hlink : Cond.fieldLink own index (T k).1 (T k).2.1 (T k).2.2.1 ∈ Ts) {v : Value} (hv : fs[k]? = some v) (hd : decode cc pc = .ok (.getfield index, 3)) (kk : St x cells slots ws lv (v :: st) (pc + 3)) : St x cells slots ws lv (.ref a :: st) pc := fun H locs ls hP hD hS hl => by
  obtain ⟨C1, C2, C3, C4, C5, C6, C7, C8, C9⟩ := C
  subst C8
  exact va_get C1.1 C1.2.1 C1.2.2.2.2 hin C1.2.2.2.1 C2 hP q0 he hc k hk (C1.2.2.2.2 _ hlink) (fun _ h => h) hv hd (kk H locs ls hP hD hS hl)
theorem r_put (C : Cx x g cc own Ts rm y ret nL) {cn : String} {T : u_T} {N ci index a : Nat} (hin : ∀ w ∈ u_ws cn T N, w ∈ Ts) (ty0 : Nat → FieldType) (hty : ∀ k, k < N → parseFieldDescriptor (T k).2.2.1 = some (ty0 k)) (hnm : ∀ a, a < N → ∀ b, b < N → a ≠ b → (T a).2.1 ≠ (T b).2.1) (q0 : Nat) {fs : List Value} (he : ws[q0]? = some (a, .inr (ci, fs))) (hc : vwCl[ci]? = some (cn, T, N)) (k : Nat) (hk : k < N) (hlink : Cond.fieldLink own index (T k).1 (T k).2.1 (T k).2.2.1 ∈ Ts) (hfin : (T k).2.2.2 = false) {v : Value} (hn : narrow (ty0 k) v = v) (hfit : fits (ty0 k) v = true) (hl0 : k < fs.length) (hd : decode cc pc = .ok (.putfield index, 3)) {ws' : va_W} (hw : ws.set q0 (a, .inr (ci, fs.set k v)) = ws') (kk : St x cells slots ws' lv st (pc + 3)) : St x cells slots ws lv (v :: .ref a :: st) pc := fun H locs ls hP hD hS hl => by
  obtain ⟨C1, C2, C3, C4, C5, C6, C7, C8, C9⟩ := C
  subst C8
  exact va_put C1.1 C1.2.1 C1.2.2.2.2 hin ty0 hty hnm C1.2.2.2.1 C2 hP hD hS q0 he hc k hk (C1.2.2.2.2 _ hlink) (fun _ h => h) hfin (hty k hk) hn hfit hl0 hd (fun H1 locs1 hP1 hD1 hS1 => kk H1 locs1 ls (by rw [← hw]; exact hP1) (by rw [← hw]; exact hD1) hS1 hl)
theorem r_putF (C : Cx x g cc own Ts rm y ret nL) {cn : String} {T : u_T} {N ci index a : Nat} (hin : ∀ w ∈ u_ws cn T N, w ∈ Ts) (ty0 : Nat → FieldType) (hty : ∀ k, k < N → parseFieldDescriptor (T k).2.2.1 = some (ty0 k)) (hnm : ∀ a, a < N → ∀ b, b < N → a ≠ b → (T a).2.1 ≠ (T b).2.1) (q0 : Nat) {fs : List Value} (he : ws[q0]? = some (a, .inr (ci, fs))) (hc : vwCl[ci]? = some (cn, T, N)) (k : Nat) (hk : k < N) (hlink : Cond.fieldLink own index (T k).1 (T k).2.1 (T k).2.2.1 ∈ Ts) (hfin : (T k).2.2.2 = true) (hini : y.name = "<init>") (hdecl : (T k).1 = own) {v : Value} (hn : narrow (ty0 k) v = v) (hfit : fits (ty0 k) v = true) (hl0 : k < fs.length) (hd : decode cc pc = .ok (.putfield index, 3)) {ws' : va_W} (hw : ws.set q0 (a, .inr (ci, fs.set k v)) = ws') (kk : St x cells slots ws' lv st (pc + 3)) : St x cells slots ws lv (v :: .ref a :: st) pc := fun H locs ls hP hD hS hl => by
  obtain ⟨C1, C2, C3, C4, C5, C6, C7, C8, C9⟩ := C
  subst C8
  exact va_putF C1.1 C1.2.1 C1.2.2.2.2 hin ty0 hty hnm C1.2.2.2.1 C2 hP hD hS q0 he hc k hk (C1.2.2.2.2 _ hlink) (fun _ h => h) hfin (C5.trans hini) hdecl (hty k hk) hn hfit hl0 hd (fun H1 locs1 hP1 hD1 hS1 => kk H1 locs1 ls (by rw [← hw]; exact hP1) (by rw [← hw]; exact hD1) hS1 hl)
theorem r_iald (C : Cx x g cc own Ts rm y ret nL) (q0 : Nat) {a n : Nat} {f : Nat → Int32} (ha : ws[q0]? = some (a, .inl (g.2 0, n, .inl f))) {i : Int32} (hi : vp_in i n) (hd : decode cc pc = .ok (.iaload, 1)) (kk : St x cells slots ws lv (.int (f i.toNatClampNeg) :: st) (pc + 1)) : St x cells slots ws lv (.int i :: .ref a :: st) pc := fun H locs ls hP hD hS hl => by
  obtain ⟨C1, C2, C3, C4, C5, C6, C7, C8, C9⟩ := C
  subst C8
  exact va_iald C1.1 C1.2.1 C2 hP q0 0 ha rfl hi hd (kk H locs ls hP hD hS hl)
theorem r_lald (C : Cx x g cc own Ts rm y ret nL) (q0 : Nat) {a n : Nat} {f : Nat → Int64} (ha : ws[q0]? = some (a, .inl (g.2 1, n, .inr (.inl f)))) {i : Int32} (hi : vp_in i n) (hd : decode cc pc = .ok (.laload, 1)) (kk : St x cells slots ws lv (.long (f i.toNatClampNeg) :: st) (pc + 1)) : St x cells slots ws lv (.int i :: .ref a :: st) pc := fun H locs ls hP hD hS hl => by
  obtain ⟨C1, C2, C3, C4, C5, C6, C7, C8, C9⟩ := C
  subst C8
  exact va_lald C1.1 C1.2.1 C2 hP q0 1 ha rfl hi hd (kk H locs ls hP hD hS hl)
theorem r_zald (C : Cx x g cc own Ts rm y ret nL) (q0 : Nat) {a n : Nat} {f : Nat → Int32} (ha : ws[q0]? = some (a, .inl (g.2 2, n, .inl f))) {i : Int32} (hi : vp_in i n) (hd : decode cc pc = .ok (.baload, 1)) (kk : St x cells slots ws lv (.int (f i.toNatClampNeg) :: st) (pc + 1)) : St x cells slots ws lv (.int i :: .ref a :: st) pc := fun H locs ls hP hD hS hl => by
  obtain ⟨C1, C2, C3, C4, C5, C6, C7, C8, C9⟩ := C
  subst C8
  exact va_zald C1.1 C1.2.1 C2 hP q0 2 ha rfl hi hd (kk H locs ls hP hD hS hl)
theorem r_bald (C : Cx x g cc own Ts rm y ret nL) (q0 : Nat) {a n : Nat} {f : Nat → Int32} (ha : ws[q0]? = some (a, .inl (g.2 3, n, .inl f))) {i : Int32} (hi : vp_in i n) (hd : decode cc pc = .ok (.baload, 1)) (kk : St x cells slots ws lv (.int (f i.toNatClampNeg) :: st) (pc + 1)) : St x cells slots ws lv (.int i :: .ref a :: st) pc := fun H locs ls hP hD hS hl => by
  obtain ⟨C1, C2, C3, C4, C5, C6, C7, C8, C9⟩ := C
  subst C8
  exact va_bald C1.1 C1.2.1 C2 hP q0 3 ha rfl hi hd (kk H locs ls hP hD hS hl)
theorem r_aald (C : Cx x g cc own Ts rm y ret nL) (q0 : Nat) {a n : Nat} {f : Nat → Option Nat} (ha : ws[q0]? = some (a, .inl (g.2 4, n, .inr (.inr (.inr (.inr f)))))) {i : Int32} (hi : vp_in i n) (hd : decode cc pc = .ok (.aaload, 1)) (kk : St x cells slots ws lv (va_rf (f i.toNatClampNeg) :: st) (pc + 1)) : St x cells slots ws lv (.int i :: .ref a :: st) pc := fun H locs ls hP hD hS hl => by
  obtain ⟨C1, C2, C3, C4, C5, C6, C7, C8, C9⟩ := C
  subst C8
  exact va_aldq C1.1 C1.2.1 C2 hP q0 4 ha rfl hi hd (kk H locs ls hP hD hS hl)
theorem r_aaldS (C : Cx x g cc own Ts rm y ret nL) (q0 : Nat) {a n : Nat} {f : Nat → Option Nat} (ha : ws[q0]? = some (a, .inl (g.2 4, n, .inr (.inr (.inr (.inr f)))))) {i : Int32} (hi : vp_in i n) {q : Nat} (hq : f i.toNatClampNeg = some q) (hd : decode cc pc = .ok (.aaload, 1)) (kk : St x cells slots ws lv (.ref q :: st) (pc + 1)) : St x cells slots ws lv (.int i :: .ref a :: st) pc := r_aald C q0 ha hi hd (by rw [hq]; exact kk)
theorem r_iast (C : Cx x g cc own Ts rm y ret nL) (q0 : Nat) {a n : Nat} {f : Nat → Int32} (ha : ws[q0]? = some (a, .inl (g.2 0, n, .inl f))) {i : Int32} {v : Int32} (hi : vp_in i n) (hd : decode cc pc = .ok (.iastore, 1)) {ws' : va_W} (hw : ws.set q0 (a, .inl (g.2 0, n, .inl (upd f i.toNatClampNeg v))) = ws') (kk : St x cells slots ws' lv st (pc + 1)) : St x cells slots ws lv (.int v :: .int i :: .ref a :: st) pc := fun H locs ls hP hD hS hl => by
  obtain ⟨C1, C2, C3, C4, C5, C6, C7, C8, C9⟩ := C
  subst C8
  exact va_iast C1.1 C1.2.1 C2 hP hD hS q0 0 ha rfl hi hd (fun H1 locs1 hP1 hD1 hS1 => kk H1 locs1 ls (by rw [← hw]; exact hP1) (by rw [← hw]; exact hD1) hS1 hl)
theorem r_last (C : Cx x g cc own Ts rm y ret nL) (q0 : Nat) {a n : Nat} {f : Nat → Int64} (ha : ws[q0]? = some (a, .inl (g.2 1, n, .inr (.inl f)))) {i : Int32} {v : Int64} (hi : vp_in i n) (hd : decode cc pc = .ok (.lastore, 1)) {ws' : va_W} (hw : ws.set q0 (a, .inl (g.2 1, n, .inr (.inl (vp_updL f i.toNatClampNeg v)))) = ws') (kk : St x cells slots ws' lv st (pc + 1)) : St x cells slots ws lv (.long v :: .int i :: .ref a :: st) pc := fun H locs ls hP hD hS hl => by
  obtain ⟨C1, C2, C3, C4, C5, C6, C7, C8, C9⟩ := C
  subst C8
  exact va_last C1.1 C1.2.1 C2 hP hD hS q0 1 ha rfl hi hd (fun H1 locs1 hP1 hD1 hS1 => kk H1 locs1 ls (by rw [← hw]; exact hP1) (by rw [← hw]; exact hD1) hS1 hl)
theorem r_zast (C : Cx x g cc own Ts rm y ret nL) (q0 : Nat) {a n : Nat} {f : Nat → Int32} (ha : ws[q0]? = some (a, .inl (g.2 2, n, .inl f))) {i : Int32} {v : Int32} (hi : vp_in i n) (hd : decode cc pc = .ok (.bastore, 1)) {ws' : va_W} (hw : ws.set q0 (a, .inl (g.2 2, n, .inl (upd f i.toNatClampNeg (vp_nar .boolean v)))) = ws') (kk : St x cells slots ws' lv st (pc + 1)) : St x cells slots ws lv (.int v :: .int i :: .ref a :: st) pc := fun H locs ls hP hD hS hl => by
  obtain ⟨C1, C2, C3, C4, C5, C6, C7, C8, C9⟩ := C
  subst C8
  exact va_zast C1.1 C1.2.1 C2 hP hD hS q0 2 ha rfl hi hd (fun H1 locs1 hP1 hD1 hS1 => kk H1 locs1 ls (by rw [← hw]; exact hP1) (by rw [← hw]; exact hD1) hS1 hl)
theorem r_bast (C : Cx x g cc own Ts rm y ret nL) (q0 : Nat) {a n : Nat} {f : Nat → Int32} (ha : ws[q0]? = some (a, .inl (g.2 3, n, .inl f))) {i : Int32} {v : Int32} (hi : vp_in i n) (hd : decode cc pc = .ok (.bastore, 1)) {ws' : va_W} (hw : ws.set q0 (a, .inl (g.2 3, n, .inl (upd f i.toNatClampNeg (vp_nar .byte v)))) = ws') (kk : St x cells slots ws' lv st (pc + 1)) : St x cells slots ws lv (.int v :: .int i :: .ref a :: st) pc := fun H locs ls hP hD hS hl => by
  obtain ⟨C1, C2, C3, C4, C5, C6, C7, C8, C9⟩ := C
  subst C8
  exact va_bast C1.1 C1.2.1 C2 hP hD hS q0 3 ha rfl hi hd (fun H1 locs1 hP1 hD1 hS1 => kk H1 locs1 ls (by rw [← hw]; exact hP1) (by rw [← hw]; exact hD1) hS1 hl)
theorem r_aast (C : Cx x g cc own Ts rm y ret nL) (q0 : Nat) {a n v : Nat} {vs : List Value} {f : Nat → Option Nat} (ha : ws[q0]? = some (a, .inl (g.2 4, n, .inr (.inr (.inr (.inr f)))))) (hv : (v, .inr (1, vs)) ∈ ws) {i : Int32} (hi : vp_in i n) (hd : decode cc pc = .ok (.aastore, 1)) {ws' : va_W} (hw : ws.set q0 (a, .inl (g.2 4, n, .inr (.inr (.inr (.inr (va_up f i.toNatClampNeg (some v))))))) = ws') (kk : St x cells slots ws' lv st (pc + 1)) : St x cells slots ws lv (.ref v :: .int i :: .ref a :: st) pc := fun H locs ls hP hD hS hl => by
  obtain ⟨C1, C2, C3, C4, C5, C6, C7, C8, C9⟩ := C
  subst C8
  obtain ⟨qk, hqk⟩ := List.getElem?_of_mem hv
  exact va_astq (r := (RX1, TX1, 11)) C1.1 C1.2.1 C2 hP hD hS q0 4 qk 1 ha rfl hqk rfl hi hd (fun H1 locs1 hP1 hD1 hS1 => kk H1 locs1 ls (by rw [← hw]; exact hP1) (by rw [← hw]; exact hD1) hS1 hl)
theorem r_alen (C : Cx x g cc own Ts rm y ret nL) (q0 t0 : Nat) {a : Nat} {cA : ClassId} {z : vp_A} (ha : ws[q0]? = some (a, .inl (cA, z))) {ty : FieldType} (ht : (kty g)[t0]? = some (cA, ty)) {v : Int32} (hv : Int32.ofNat z.1 = v) (hd : decode cc pc = .ok (.arraylength, 1)) (kk : St x cells slots ws lv (.int v :: st) (pc + 1)) : St x cells slots ws lv (.ref a :: st) pc := fun H locs ls hP hD hS hl => by
  obtain ⟨C1, C2, C3, C4, C5, C6, C7, C8, C9⟩ := C
  subst C8
  exact va_alen C1.1 C1.2.1 C2 hP q0 t0 ha ht hv hd (kk H locs ls hP hD hS hl)
end ROWS
