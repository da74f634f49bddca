/-! PURE STATES AND WORLDS. RS: int fields, int rows, long fields, long rows, by the slot's number -/
abbrev RS : Type := (Nat → Int32) × (Nat → Nat → Int32) × (Nat → Int64) × (Nat → Nat → Int64)
def sI (S : RS) (k : Nat) (v : Int32) : RS := (up S.1 k v, S.2)
def sA (S : RS) (k : Nat) (f : Nat → Int32) : RS := (S.1, up S.2.1 k f, S.2.2)
def sL (S : RS) (k : Nat) (v : Int64) : RS := (S.1, S.2.1, up S.2.2.1 k v, S.2.2.2)
def sM (S : RS) (k : Nat) (f : Nat → Int64) : RS := (S.1, S.2.1, S.2.2.1, up S.2.2.2 k f)
def lawE (L : RS) : va_E := .inr (1, [.int (L.1 0), .int (L.1 1), .long (L.2.2.1 2), .long (L.2.2.1 3), .int (L.1 4), .int (L.1 5), .int (L.1 6), .int (L.1 7), .int (L.1 8), .int (L.1 9), .int (L.1 10)])
def gW (g : Gx) (a : Nat → Nat) (S : RS) : va_W := [(a 50, .inr (0, [.int (S.1 0), .ref (a 1), .ref (a 2), .ref (a 3), .ref (a 4), .ref (a 5), .int (S.1 6), .ref (a 7), .ref (a 8), .ref (a 9)])), (a 1, .inl (g.2 1, 20, .inr (.inl (S.2.2.2 1)))), (a 2, .inl (g.2 1, 20, .inr (.inl (S.2.2.2 2)))), (a 3, .inl (g.2 0, 20, .inl (S.2.1 3))), (a 4, .inl (g.2 0, 20, .inl (S.2.1 4))), (a 5, .inl (g.2 0, 1024, .inl (S.2.1 5))), (a 7, .inl (g.2 0, 1024, .inl (S.2.1 7))), (a 8, .inl (g.2 1, 32, .inr (.inl (S.2.2.2 8)))), (a 9, .inl (g.2 0, 32, .inl (S.2.1 9)))]
def pW (g : Gx) (a : Nat → Nat) (S : RS) : va_W := [(a 50, .inr (2, [.ref (a 0), .int (S.1 1)])), (a 0, .inl (g.2 0, 20, .inl (S.2.1 0)))]
def tW (g : Gx) (a : Nat → Nat) (S : RS) : va_W := [(a 50, .inr (3, [.ref (a 0), .int (S.1 1), .int (S.1 2), .int (S.1 3), .int (S.1 4), .int (S.1 5), .long (S.2.2.1 6), .long (S.2.2.1 7)])), (a 0, .inl (g.2 0, 80, .inl (S.2.1 0)))]
def yW (g : Gx) (a : Nat → Nat) (S : RS) (si : Nat → Option Nat) : va_W := [(a 50, .inr (4, [.ref (a 0), .ref (a 1), .ref (a 2), .int (S.1 3), .int (S.1 4)])), (a 0, .inl (g.2 4, 4, .inr (.inr (.inr (.inr si))))), (a 1, .inl (g.2 0, 4, .inl (S.2.1 1))), (a 2, .inl (g.2 0, 4, .inl (S.2.1 2)))]
def bW (g : Gx) (a : Nat → Nat → Nat) (S : RS) (lw : Nat → Option Nat) : va_W := [(a 0 50, .inr (5, [.ref (a 1 50), .ref (a 0 1), .int (S.1 2), .int (S.1 3), .ref (a 0 4), .int (S.1 5), .ref (a 2 50), .ref (a 3 50), .ref (a 4 50), .int (S.1 9), .int (S.1 10), .ref (a 5 50), .int (S.1 12)])), (a 0 1, .inl (g.2 4, 20, .inr (.inr (.inr (.inr lw))))), (a 0 4, .inl (g.2 3, 200, .inl (S.2.1 4)))]
def mW (g : Gx) (a : Nat → Nat) (S : RS) : va_W := [(a 50, .inr (6, [.int (S.1 0), .ref (a 1), .int (S.1 2), .ref (a 3), .ref (a 4), .ref (a 5), .ref (a 6), .ref (a 7), .ref (a 8), .ref (a 9), .ref (a 10), .ref (a 11), .ref (a 12), .int (S.1 13), .ref (a 14), .ref (a 15), .int (S.1 16), .int (S.1 17), .ref (a 18), .ref (a 19), .ref (a 20), .int (S.1 21), .int (S.1 22), .int (S.1 23), .ref (a 24), .ref (a 25), .int (S.1 26), .int (S.1 27), .ref (a 28), .int (S.1 29), .ref (a 30), .int (S.1 31), .int (S.1 32), .ref (a 33), .ref (a 34), .int (S.1 35), .int (S.1 36), .int (S.1 37), .int (S.1 38), .ref (a 39), .ref (a 40), .ref (a 41), .int (S.1 42)])), (a 1, .inl (g.2 0, 80, .inl (S.2.1 1))), (a 3, .inl (g.2 0, 20, .inl (S.2.1 3))), (a 4, .inl (g.2 0, 20, .inl (S.2.1 4))), (a 5, .inl (g.2 1, 20, .inr (.inl (S.2.2.2 5)))), (a 6, .inl (g.2 1, 20, .inr (.inl (S.2.2.2 6)))), (a 7, .inl (g.2 0, 20, .inl (S.2.1 7))), (a 8, .inl (g.2 0, 20, .inl (S.2.1 8))), (a 9, .inl (g.2 0, 20, .inl (S.2.1 9))), (a 10, .inl (g.2 0, 20, .inl (S.2.1 10))), (a 11, .inl (g.2 0, 20, .inl (S.2.1 11))), (a 12, .inl (g.2 0, 20, .inl (S.2.1 12))), (a 14, .inl (g.2 0, 5, .inl (S.2.1 14))), (a 15, .inl (g.2 0, 5, .inl (S.2.1 15))), (a 18, .inl (g.2 0, 1280, .inl (S.2.1 18))), (a 19, .inl (g.2 2, 1024, .inl (S.2.1 19))), (a 20, .inl (g.2 0, 1024, .inl (S.2.1 20))), (a 24, .inl (g.2 0, 5, .inl (S.2.1 24))), (a 25, .inl (g.2 0, 5, .inl (S.2.1 25))), (a 28, .inl (g.2 0, 3125, .inl (S.2.1 28))), (a 30, .inl (g.2 0, 200, .inl (S.2.1 30))), (a 33, .inl (g.2 0, 20, .inl (S.2.1 33))), (a 34, .inl (g.2 0, 20, .inl (S.2.1 34))), (a 39, .inl (g.2 0, 1024, .inl (S.2.1 39))), (a 40, .inl (g.2 2, 1024, .inl (S.2.1 40))), (a 41, .inl (g.2 0, 5, .inl (S.2.1 41)))]
def plW (lp : List Nat) (pf : Nat → RS) : va_W := va_pl lp (fun q => lawE (pf q))
/-- the class under test, whole -/
def sysX (g : Gx) (a : Nat → Nat → Nat) (sb : RS) (lw : Nat → Option Nat) (st sp sd ss sy : RS) (si : Nat → Option Nat) : va_W := bW g a sb lw ++ (tW g (a 1) st ++ (pW g (a 2) sp ++ (gW g (a 3) sd ++ (gW g (a 4) ss ++ yW g (a 5) sy si))))
def sysW (g : Gx) (a : Nat → Nat → Nat) (sb : RS) (lw : Nat → Option Nat) (st sp sd ss sy : RS) (si : Nat → Option Nat) (lp : List Nat) (pf : Nat → RS) : va_W := sysX g a sb lw st sp sd ss sy si ++ plW lp pf
/-- the treaty with a game and the laws -/
def trW (g : Gx) (a d : Nat → Nat) (sy : RS) (si : Nat → Option Nat) (sd : RS) (lp : List Nat) (pf : Nat → RS) : va_W := (yW g a sy si ++ gW g d sd) ++ plW lp pf
theorem pl_mem {lp : List Nat} {pf : Nat → RS} {q : Nat} (h : q ∈ lp) : (q, lawE (pf q)) ∈ plW lp pf := List.mem_map.mpr ⟨q, h, rfl⟩
theorem pl_perm {lp : List Nat} {pf : Nat → RS} {q : Nat} (h : q ∈ lp) : (plW lp pf).Perm ((q, lawE (pf q)) :: plW (lp.erase q) pf) := (List.perm_cons_erase h).map (fun q => (q, lawE (pf q)))
/-- regions taken out of a row of regions -/
theorem pmA {A B R : va_W} : (A ++ (B ++ R)).Perm (B ++ (A ++ R)) := by
  rw [← List.append_assoc, ← List.append_assoc]
  exact List.perm_append_comm.append_right R
theorem pm0 {A R : va_W} : (A ++ R).Perm (A ++ R) := List.Perm.refl _
theorem pm1 {A B R : va_W} : (A ++ (B ++ R)).Perm (B ++ (A ++ R)) := pmA
theorem pm2 {A B C R : va_W} : (A ++ (B ++ (C ++ R))).Perm (C ++ (A ++ (B ++ R))) := (pmA.append_left A).trans pmA
theorem pm3 {A B C D R : va_W} : (A ++ (B ++ (C ++ (D ++ R)))).Perm (D ++ (A ++ (B ++ (C ++ R)))) := (pm2.append_left A).trans pmA
theorem pm4 {A B C D E R : va_W} : (A ++ (B ++ (C ++ (D ++ (E ++ R))))).Perm (E ++ (A ++ (B ++ (C ++ (D ++ R))))) := (pm3.append_left A).trans pmA
theorem pm5 {A B C D E F R : va_W} : (A ++ (B ++ (C ++ (D ++ (E ++ (F ++ R)))))).Perm (F ++ (A ++ (B ++ (C ++ (D ++ (E ++ R)))))) := (pm4.append_left A).trans pmA
section SYS
variable {g : Gx} {a : Nat → Nat → Nat} {sb st sp sd ss sy : RS} {lw si : Nat → Option Nat} {lp : List Nat} {pf : Nat → RS}
theorem sys_eq : sysW g a sb lw st sp sd ss sy si lp pf = bW g a sb lw ++ (tW g (a 1) st ++ (pW g (a 2) sp ++ (gW g (a 3) sd ++ (gW g (a 4) ss ++ (yW g (a 5) sy si ++ plW lp pf))))) := by
  unfold sysW sysX
  simp only [List.append_assoc]
def R1 (g : Gx) (a : Nat → Nat → Nat) (sb : RS) (lw : Nat → Option Nat) (sp sd ss sy : RS) (si : Nat → Option Nat) (lp : List Nat) (pf : Nat → RS) : va_W := bW g a sb lw ++ (pW g (a 2) sp ++ (gW g (a 3) sd ++ (gW g (a 4) ss ++ (yW g (a 5) sy si ++ plW lp pf))))
def R2 (g : Gx) (a : Nat → Nat → Nat) (sb : RS) (lw : Nat → Option Nat) (st sd ss sy : RS) (si : Nat → Option Nat) (lp : List Nat) (pf : Nat → RS) : va_W := bW g a sb lw ++ (tW g (a 1) st ++ (gW g (a 3) sd ++ (gW g (a 4) ss ++ (yW g (a 5) sy si ++ plW lp pf))))
def R3 (g : Gx) (a : Nat → Nat → Nat) (sb : RS) (lw : Nat → Option Nat) (st sp ss sy : RS) (si : Nat → Option Nat) (lp : List Nat) (pf : Nat → RS) : va_W := bW g a sb lw ++ (tW g (a 1) st ++ (pW g (a 2) sp ++ (gW g (a 4) ss ++ (yW g (a 5) sy si ++ plW lp pf))))
def R4 (g : Gx) (a : Nat → Nat → Nat) (sb : RS) (lw : Nat → Option Nat) (st sp sd sy : RS) (si : Nat → Option Nat) (lp : List Nat) (pf : Nat → RS) : va_W := bW g a sb lw ++ (tW g (a 1) st ++ (pW g (a 2) sp ++ (gW g (a 3) sd ++ (yW g (a 5) sy si ++ plW lp pf))))
def R5 (g : Gx) (a : Nat → Nat → Nat) (sb : RS) (lw : Nat → Option Nat) (st sp sd ss : RS) (lp : List Nat) (pf : Nat → RS) : va_W := bW g a sb lw ++ (tW g (a 1) st ++ (pW g (a 2) sp ++ (gW g (a 3) sd ++ (gW g (a 4) ss ++ plW lp pf))))
def R6 (g : Gx) (a : Nat → Nat → Nat) (sb : RS) (lw : Nat → Option Nat) (st sp ss : RS) : va_W := bW g a sb lw ++ (tW g (a 1) st ++ (pW g (a 2) sp ++ gW g (a 4) ss))
theorem sp1 : (sysW g a sb lw st sp sd ss sy si lp pf).Perm (tW g (a 1) st ++ R1 g a sb lw sp sd ss sy si lp pf) := by rw [sys_eq]; exact pm1
theorem sp2 : (sysW g a sb lw st sp sd ss sy si lp pf).Perm (pW g (a 2) sp ++ R2 g a sb lw st sd ss sy si lp pf) := by rw [sys_eq]; exact pm2
theorem sp3 : (sysW g a sb lw st sp sd ss sy si lp pf).Perm (gW g (a 3) sd ++ R3 g a sb lw st sp ss sy si lp pf) := by rw [sys_eq]; exact pm3
theorem sp4 : (sysW g a sb lw st sp sd ss sy si lp pf).Perm (gW g (a 4) ss ++ R4 g a sb lw st sp sd sy si lp pf) := by rw [sys_eq]; exact pm4
theorem sp5 : (sysW g a sb lw st sp sd ss sy si lp pf).Perm (yW g (a 5) sy si ++ R5 g a sb lw st sp sd ss lp pf) := by rw [sys_eq]; exact pm5
theorem sp6 : (sysW g a sb lw st sp sd ss sy si lp pf).Perm (trW g (a 5) (a 3) sy si sd lp pf ++ R6 g a sb lw st sp ss) := by
  rw [sys_eq]
  unfold trW R6
  refine (pm5.trans ?_)
  rw [List.append_assoc, List.append_assoc]
  refine List.Perm.append_left _ (pm3.trans (List.Perm.append_left _ ?_))
  rw [← List.append_assoc, ← List.append_assoc, ← List.append_assoc]
  refine List.perm_append_comm.trans (List.Perm.append_left _ ?_)
  simp only [List.append_assoc]
  exact List.Perm.refl _
/-- a game and one of the laws -/
theorem sq {X Y : va_W} {q : Nat} (h : q ∈ lp) : (X ++ (Y ++ plW lp pf)).Perm ((X ++ [(q, lawE (pf q))]) ++ (Y ++ plW (lp.erase q) pf)) := by
  rw [List.append_assoc]
  refine List.Perm.append_left X ?_
  exact ((pl_perm h).append_left Y).trans List.perm_middle
theorem sp3q {q : Nat} (h : q ∈ lp) : (sysW g a sb lw st sp sd ss sy si lp pf).Perm ((gW g (a 3) sd ++ [(q, lawE (pf q))]) ++ R3 g a sb lw st sp ss sy si (lp.erase q) pf) := by
  refine sp3.trans ?_
  have e : ∀ l : List Nat, R3 g a sb lw st sp ss sy si l pf = (bW g a sb lw ++ (tW g (a 1) st ++ (pW g (a 2) sp ++ (gW g (a 4) ss ++ yW g (a 5) sy si)))) ++ plW l pf := fun l => by unfold R3; simp only [List.append_assoc]
  rw [e, e]
  exact sq h
theorem sp4q {q : Nat} (h : q ∈ lp) : (sysW g a sb lw st sp sd ss sy si lp pf).Perm ((gW g (a 4) ss ++ [(q, lawE (pf q))]) ++ R4 g a sb lw st sp sd sy si (lp.erase q) pf) := by
  refine sp4.trans ?_
  have e : ∀ l : List Nat, R4 g a sb lw st sp sd sy si l pf = (bW g a sb lw ++ (tW g (a 1) st ++ (pW g (a 2) sp ++ (gW g (a 3) sd ++ yW g (a 5) sy si)))) ++ plW l pf := fun l => by unfold R4; simp only [List.append_assoc]
  rw [e, e]
  exact sq h
theorem sp5q {q : Nat} (h : q ∈ lp) : (sysW g a sb lw st sp sd ss sy si lp pf).Perm ((yW g (a 5) sy si ++ [(q, lawE (pf q))]) ++ R5 g a sb lw st sp sd ss (lp.erase q) pf) := by
  refine sp5.trans ?_
  have e : ∀ l : List Nat, R5 g a sb lw st sp sd ss l pf = (bW g a sb lw ++ (tW g (a 1) st ++ (pW g (a 2) sp ++ (gW g (a 3) sd ++ gW g (a 4) ss)))) ++ plW l pf := fun l => by unfold R5; simp only [List.append_assoc]
  rw [e, e]
  exact sq h
end SYS
section TRW
variable {g : Gx} {a d : Nat → Nat} {sd sy : RS} {si : Nat → Option Nat} {lp : List Nat} {pf : Nat → RS}
theorem tp1 : (trW g a d sy si sd lp pf).Perm (gW g d sd ++ (yW g a sy si ++ plW lp pf)) := by
  unfold trW
  rw [List.append_assoc]
  exact pm1
theorem tp1q {q : Nat} (h : q ∈ lp) : (trW g a d sy si sd lp pf).Perm ((gW g d sd ++ [(q, lawE (pf q))]) ++ (yW g a sy si ++ plW (lp.erase q) pf)) := tp1.trans (sq h)
end TRW
/-! a world's regions are sublists of it -/
theorem sl0 {A R : va_W} : A.Sublist (A ++ R) := List.sublist_append_left A R
theorem slR {A B R : va_W} (h : A.Sublist R) : A.Sublist (B ++ R) := List.Sublist.trans h (List.sublist_append_right B R)
theorem slq {X : va_W} {lp : List Nat} {pf : Nat → RS} {q : Nat} (h : q ∈ lp) : ([(q, lawE (pf q))] : va_W).Sublist (X ++ plW lp pf) := slR (List.singleton_sublist.mpr (pl_mem h))
section SLS
variable {g : Gx} {a : Nat → Nat → Nat} {sb st sp sd ss sy : RS} {lw si : Nat → Option Nat} {lp : List Nat} {pf : Nat → RS}
theorem sl_t : (tW g (a 1) st).Sublist (sysW g a sb lw st sp sd ss sy si lp pf) := (slR sl0 : (tW g (a 1) st).Sublist (sysX g a sb lw st sp sd ss sy si)).trans sl0
theorem sl_p : (pW g (a 2) sp).Sublist (sysW g a sb lw st sp sd ss sy si lp pf) := (slR (slR sl0) : (pW g (a 2) sp).Sublist (sysX g a sb lw st sp sd ss sy si)).trans sl0
theorem sl_d : (gW g (a 3) sd).Sublist (sysW g a sb lw st sp sd ss sy si lp pf) := (slR (slR (slR sl0)) : (gW g (a 3) sd).Sublist (sysX g a sb lw st sp sd ss sy si)).trans sl0
theorem sl_s : (gW g (a 4) ss).Sublist (sysW g a sb lw st sp sd ss sy si lp pf) := (slR (slR (slR (slR sl0))) : (gW g (a 4) ss).Sublist (sysX g a sb lw st sp sd ss sy si)).trans sl0
theorem sl_y : (yW g (a 5) sy si).Sublist (sysW g a sb lw st sp sd ss sy si lp pf) := (slR (slR (slR (slR (slR (List.Sublist.refl _))))) : (yW g (a 5) sy si).Sublist (sysX g a sb lw st sp sd ss sy si)).trans sl0
theorem sl_run {q : Nat} (h : q ∈ lp) : ([(a 0 4, .inl (g.2 3, 200, .inl (sb.2.1 4))), (q, lawE (pf q))] : va_W).Sublist (sysW g a sb lw st sp sd ss sy si lp pf) := List.Sublist.append (List.singleton_sublist.mpr (List.mem_of_getElem? (i := 2) rfl) : ([(a 0 4, .inl (g.2 3, 200, .inl (sb.2.1 4)))] : va_W).Sublist (sysX g a sb lw st sp sd ss sy si)) (List.singleton_sublist.mpr (pl_mem h))
theorem sl_g {d a : Nat → Nat} {Y G : RS} : (gW g d G).Sublist (trW g a d Y si G lp pf) := (slR (List.Sublist.refl _) : (gW g d G).Sublist (yW g a Y si ++ gW g d G)).trans sl0
end SLS
/-! wrappers of the calls: R the callee leaves its world, W the callee's world is the whole, P a part; I, L, V, A by the answer -/
section WRAP
variable {x : Nx} {g : Gx} {cc : ByteArray} {own : String} {Ts : List Cond} {rm : Room} {y : MethodName} {ret : Option FieldType} {nL cells slots pc : Nat} {ws : va_W} {lv : List (Nat × Value)} {st : List Value}
theorem callR_I {σ : Type} (C : Cx x g cc own Ts rm y ret nL) {st0 rest : List Value} {W0 : va_W} {WS : σ → va_W} {Q : Int32 → σ → Prop} {mc ms : Nat} (hr : RunG x g cells slots lv st0 rest pc ws W0 WS (qI Q) mc ms) (hsl : W0.Sublist ws) (hsame : ∀ u, WS u = W0) (kk : ∀ (r : Int32) (u : σ), Q r u → St x (cells + mc) (slots + ms) ws lv (.int r :: rest) (pc + 3)) : St x cells slots ws lv st0 pc := by
  intro H locs ls hP hD hS hl
  refine run_ro C hr hsl.subset ((hsl.map _).nodup (vD_iff.mp hD).1) hsame (fun v u hq => ?_) H locs ls hP hD hS hl
  obtain ⟨r, rfl, h⟩ := hq
  exact kk r u h
theorem callP_I {σ : Type} (C : Cx x g cc own Ts rm y ret nL) {st0 rest : List Value} {W0 wr : va_W} {WS : σ → va_W} {Q : Int32 → σ → Prop} {mc ms : Nat} (hr : RunG x g cells slots lv st0 rest pc ws W0 WS (qI Q) mc ms) (hp : ws.Perm (W0 ++ wr)) {ws' : σ → va_W} (hp' : ∀ u, (ws' u).Perm (WS u ++ wr)) (kk : ∀ (r : Int32) (u : σ), Q r u → St x (cells + mc) (slots + ms) (ws' u) lv (.int r :: rest) (pc + 3)) : St x cells slots ws lv st0 pc := by
  refine run_core C hr hp (fun u => (hp' u).symm) (fun v u hq => ?_)
  obtain ⟨r, rfl, h⟩ := hq
  exact kk r u h
theorem callW_I {σ : Type} (C : Cx x g cc own Ts rm y ret nL) {st0 rest : List Value} {WS : σ → va_W} {Q : Int32 → σ → Prop} {mc ms : Nat} (hr : RunG x g cells slots lv st0 rest pc ws ws WS (qI Q) mc ms) (kk : ∀ (r : Int32) (u : σ), Q r u → St x (cells + mc) (slots + ms) (WS u) lv (.int r :: rest) (pc + 3)) : St x cells slots ws lv st0 pc := by
  refine callP_I C hr (wr := []) (by rw [List.append_nil]) (fun u => by rw [List.append_nil]) kk
theorem callR_L {σ : Type} (C : Cx x g cc own Ts rm y ret nL) {st0 rest : List Value} {W0 : va_W} {WS : σ → va_W} {Q : Int64 → σ → Prop} {mc ms : Nat} (hr : RunG x g cells slots lv st0 rest pc ws W0 WS (qL Q) mc ms) (hsl : W0.Sublist ws) (hsame : ∀ u, WS u = W0) (kk : ∀ (r : Int64) (u : σ), Q r u → St x (cells + mc) (slots + ms) ws lv (.long r :: rest) (pc + 3)) : St x cells slots ws lv st0 pc := by
  intro H locs ls hP hD hS hl
  refine run_ro C hr hsl.subset ((hsl.map _).nodup (vD_iff.mp hD).1) hsame (fun v u hq => ?_) H locs ls hP hD hS hl
  obtain ⟨r, rfl, h⟩ := hq
  exact kk r u h
theorem callP_L {σ : Type} (C : Cx x g cc own Ts rm y ret nL) {st0 rest : List Value} {W0 wr : va_W} {WS : σ → va_W} {Q : Int64 → σ → Prop} {mc ms : Nat} (hr : RunG x g cells slots lv st0 rest pc ws W0 WS (qL Q) mc ms) (hp : ws.Perm (W0 ++ wr)) {ws' : σ → va_W} (hp' : ∀ u, (ws' u).Perm (WS u ++ wr)) (kk : ∀ (r : Int64) (u : σ), Q r u → St x (cells + mc) (slots + ms) (ws' u) lv (.long r :: rest) (pc + 3)) : St x cells slots ws lv st0 pc := by
  refine run_core C hr hp (fun u => (hp' u).symm) (fun v u hq => ?_)
  obtain ⟨r, rfl, h⟩ := hq
  exact kk r u h
theorem callW_L {σ : Type} (C : Cx x g cc own Ts rm y ret nL) {st0 rest : List Value} {WS : σ → va_W} {Q : Int64 → σ → Prop} {mc ms : Nat} (hr : RunG x g cells slots lv st0 rest pc ws ws WS (qL Q) mc ms) (kk : ∀ (r : Int64) (u : σ), Q r u → St x (cells + mc) (slots + ms) (WS u) lv (.long r :: rest) (pc + 3)) : St x cells slots ws lv st0 pc := by
  refine callP_L C hr (wr := []) (by rw [List.append_nil]) (fun u => by rw [List.append_nil]) kk
theorem callR_A {σ : Type} (C : Cx x g cc own Ts rm y ret nL) {st0 rest : List Value} {W0 : va_W} {WS : σ → va_W} {Q : Option Nat → σ → Prop} {mc ms : Nat} (hr : RunG x g cells slots lv st0 rest pc ws W0 WS (qA Q) mc ms) (hsl : W0.Sublist ws) (hsame : ∀ u, WS u = W0) (kk : ∀ (r : Option Nat) (u : σ), Q r u → St x (cells + mc) (slots + ms) ws lv (va_rf r :: rest) (pc + 3)) : St x cells slots ws lv st0 pc := by
  intro H locs ls hP hD hS hl
  refine run_ro C hr hsl.subset ((hsl.map _).nodup (vD_iff.mp hD).1) hsame (fun v u hq => ?_) H locs ls hP hD hS hl
  obtain ⟨r, rfl, h⟩ := hq
  exact kk r u h
theorem callP_A {σ : Type} (C : Cx x g cc own Ts rm y ret nL) {st0 rest : List Value} {W0 wr : va_W} {WS : σ → va_W} {Q : Option Nat → σ → Prop} {mc ms : Nat} (hr : RunG x g cells slots lv st0 rest pc ws W0 WS (qA Q) mc ms) (hp : ws.Perm (W0 ++ wr)) {ws' : σ → va_W} (hp' : ∀ u, (ws' u).Perm (WS u ++ wr)) (kk : ∀ (r : Option Nat) (u : σ), Q r u → St x (cells + mc) (slots + ms) (ws' u) lv (va_rf r :: rest) (pc + 3)) : St x cells slots ws lv st0 pc := by
  refine run_core C hr hp (fun u => (hp' u).symm) (fun v u hq => ?_)
  obtain ⟨r, rfl, h⟩ := hq
  exact kk r u h
theorem callW_A {σ : Type} (C : Cx x g cc own Ts rm y ret nL) {st0 rest : List Value} {WS : σ → va_W} {Q : Option Nat → σ → Prop} {mc ms : Nat} (hr : RunG x g cells slots lv st0 rest pc ws ws WS (qA Q) mc ms) (kk : ∀ (r : Option Nat) (u : σ), Q r u → St x (cells + mc) (slots + ms) (WS u) lv (va_rf r :: rest) (pc + 3)) : St x cells slots ws lv st0 pc := by
  refine callP_A C hr (wr := []) (by rw [List.append_nil]) (fun u => by rw [List.append_nil]) kk
theorem callR_V {σ : Type} (C : Cx x g cc own Ts rm y ret nL) {st0 rest : List Value} {W0 : va_W} {WS : σ → va_W} {Q : σ → Prop} {mc ms : Nat} (hr : RunG x g cells slots lv st0 rest pc ws W0 WS (qV Q) mc ms) (hsl : W0.Sublist ws) (hsame : ∀ u, WS u = W0) (kk : ∀ (u : σ), Q u → St x (cells + mc) (slots + ms) ws lv (rest) (pc + 3)) : St x cells slots ws lv st0 pc := by
  intro H locs ls hP hD hS hl
  refine run_ro C hr hsl.subset ((hsl.map _).nodup (vD_iff.mp hD).1) hsame (fun v u hq => ?_) H locs ls hP hD hS hl
  obtain ⟨rfl, h⟩ := hq
  exact kk u h
theorem callP_V {σ : Type} (C : Cx x g cc own Ts rm y ret nL) {st0 rest : List Value} {W0 wr : va_W} {WS : σ → va_W} {Q : σ → Prop} {mc ms : Nat} (hr : RunG x g cells slots lv st0 rest pc ws W0 WS (qV Q) mc ms) (hp : ws.Perm (W0 ++ wr)) {ws' : σ → va_W} (hp' : ∀ u, (ws' u).Perm (WS u ++ wr)) (kk : ∀ (u : σ), Q u → St x (cells + mc) (slots + ms) (ws' u) lv (rest) (pc + 3)) : St x cells slots ws lv st0 pc := by
  refine run_core C hr hp (fun u => (hp' u).symm) (fun v u hq => ?_)
  obtain ⟨rfl, h⟩ := hq
  exact kk u h
theorem callW_V {σ : Type} (C : Cx x g cc own Ts rm y ret nL) {st0 rest : List Value} {WS : σ → va_W} {Q : σ → Prop} {mc ms : Nat} (hr : RunG x g cells slots lv st0 rest pc ws ws WS (qV Q) mc ms) (kk : ∀ (u : σ), Q u → St x (cells + mc) (slots + ms) (WS u) lv (rest) (pc + 3)) : St x cells slots ws lv st0 pc := by
  refine callP_V C hr (wr := []) (by rw [List.append_nil]) (fun u => by rw [List.append_nil]) kk
/-- laws of the pool -/
theorem r_getP (C : Cx x g cc own Ts rm y ret nL) {X : va_W} {lp : List Nat} {pf : Nat → RS} {index q : Nat} (hin : ∀ w ∈ u_ws RX1 TX1 11, w ∈ Ts) (hq : q ∈ lp) (k : Nat) (hk : k < 11) (hlink : Cond.fieldLink own index (TX1 k).1 (TX1 k).2.1 (TX1 k).2.2.1 ∈ Ts) {v : Value} (hv : lawE (pf q) = .inr (1, (match lawE (pf q) with | .inr o => o.2 | .inl _ => [])) ∧ (match lawE (pf q) with | .inr o => o.2 | .inl _ => [])[k]? = some v) (hd : decode cc pc = .ok (.getfield index, 3)) (kk : St x cells slots (X ++ plW lp pf) lv (v :: st) (pc + 3)) : St x cells slots (X ++ plW lp pf) lv (.ref q :: st) pc := by
  obtain ⟨k0, hk0⟩ := va_pl_get (X := X) (f := fun q => lawE (pf q)) hq
  exact r_get C (cn := RX1) (T := TX1) (N := 11) (ci := 1) hin k0 (by show (X ++ va_pl lp (fun q => lawE (pf q)))[k0]? = _; rw [hk0]; exact congrArg (fun e => some (q, e)) hv.1) rfl k hk hlink hv.2 hd kk
theorem r_putP (C : Cx x g cc own Ts rm y ret nL) {X : va_W} {lp : List Nat} {pf : Nat → RS} {index q : Nat} (hin : ∀ w ∈ u_ws RX1 TX1 11, w ∈ Ts) (hq : q ∈ lp) (k : Nat) (hk : k < 11) (hlink : Cond.fieldLink own index (TX1 k).1 (TX1 k).2.1 (TX1 k).2.2.1 ∈ Ts) (hfin : (TX1 k).2.2.2 = false) {v : Int32} (hty : tyX1 k = .int) {fs : List Value} (hv : lawE (pf q) = .inr (1, fs)) (hl0 : k < fs.length) (hn : lawE (sI (pf q) k v) = .inr (1, fs.set k (.int v))) (hd : decode cc pc = .ok (.putfield index, 3)) (kk : St x cells slots (X ++ plW lp (up pf q (sI (pf q) k v))) lv st (pc + 3)) : St x cells slots (X ++ plW lp pf) lv (.int v :: .ref q :: st) pc := by
  intro H locs ls hP hD hS hl
  obtain ⟨k0, hk0⟩ := va_pl_get (X := X) (f := fun q => lawE (pf q)) hq
  refine r_put C (cn := RX1) (T := TX1) (N := 11) (ci := 1) hin tyX1 tyX1_ok nmX1 k0 (fs := fs) (by show (X ++ va_pl lp (fun q => lawE (pf q)))[k0]? = _; rw [hk0]; exact congrArg (fun e => some (q, e)) hv) rfl k hk hlink hfin (by rw [hty]; rfl) (by rw [hty]; rfl) hl0 hd ?_ kk H locs ls hP hD hS hl
  have h5 := va_pl_set (e := lawE (sI (pf q) k v)) hD hq hk0
  rw [hn] at h5
  refine h5.trans (congrArg (fun l => X ++ l) (va_pl_congr fun b => ?_))
  by_cases hb : b = q
  · subst hb
    simp only [va_up, if_pos rfl, up_same]
    exact hn.symm
  · simp only [va_up, if_neg hb, up_ne hb]
/-- a new law joins the pool -/
theorem r_pool {X : va_W} {lp : List Nat} {pf : Nat → RS} {q : Nat} {L : RS} (kk : q ∉ lp → St x cells slots (X ++ plW (lp ++ [q]) (up pf q L)) lv st pc) : St x cells slots ((X ++ plW lp pf) ++ [(q, lawE L)]) lv st pc := by
  intro H locs ls hP hD hS hl
  have hnq : q ∉ lp := by
    intro hq
    have h1 := (vD_iff.mp hD).1
    rw [List.map_append] at h1
    exact (List.nodup_append.mp h1).2.2 q (List.mem_map.mpr ⟨(q, lawE (pf q)), List.mem_append_right _ (pl_mem hq), rfl⟩) q (by simp) rfl
  have e : (X ++ plW lp pf) ++ [(q, lawE L)] = X ++ plW (lp ++ [q]) (up pf q L) := by
    rw [List.append_assoc]
    refine congrArg (fun l => X ++ l) ((va_pl_push hnq).trans (va_pl_congr fun b => ?_))
    by_cases hb : b = q
    · subst hb
      simp [va_up, up_same]
    · simp only [va_up, if_neg hb, up_ne hb]
  rw [e] at hP hD
  exact kk hnq H locs ls hP hD hS hl
theorem r_objinit (C : Cx x g cc own Ts rm y ret nL) {idx a : Nat} (hlink : Cond.methodLink own idx Lib.objectInit ∈ Ts) (hinst : Cond.instanceMethod Lib.objectInit ∈ Ts) (hcode : Cond.code Lib.objectInit ⟨#[0xb1]⟩ 1 none ∈ Ts) (hframes : 1 ≤ rm.frames) (hlocals : (st.map fun v => v.category).sum + 12 ≤ rm.locals) (hd : decode cc pc = .ok (.invokespecial idx, 3)) (k : St x cells slots ws lv st (pc + 3)) : St x cells slots ws lv (.ref a :: st) pc := fun H locs ls hP hD hS hl => W.objInit C.1.1 C.1.2.1 C.1.2.2.2.1 (C.1.2.2.2.2 _ hlink) (C.1.2.2.2.2 _ hinst) (C.1.2.2.2.2 _ hcode) rfl (by rw [C.1.2.2.1, ← C.2.2.2.2.2.2.2.2]; exact hl.1) rfl hd (by rw [C.2.2.2.1]; exact hframes) (by rw [C.2.2.2.1]; show 2 * 0 + _ + 12 ≤ _; omega) (k H locs ls hP hD hS hl)
theorem r_copy4 (C : Cx x g cc own Ts rm y ret nL) {index : Nat} (hlink : Cond.methodLink own index arraycopyName ∈ Ts) (hnat : Cond.native arraycopyName ∈ Ts) (hstat : Cond.static arraycopyName ∈ Ts) (hini : Cond.initialized "java/lang/System" ∈ Ts) (q0 q1 : Nat) {a a0 : Nat} {f f1 : Nat → Int32} (ha0 : ws[q0]? = some (a0, .inl (g.2 0, 4, .inl f))) (ha1 : ws[q1]? = some (a, .inl (g.2 0, 4, .inl f1))) (hframes : 1 ≤ rm.frames) (hlocals : (st.map fun v => v.category).sum + (nativeFrameWords "java/lang/System" "arraycopy" 5 + 11) ≤ rm.locals) (hd : decode cc pc = .ok (.invokestatic index, 3)) {ws' : va_W} (hw : ws.set q1 (a, .inl (g.2 0, 4, .inl (va_cpy f f1 0 0 4))) = ws') (kk : St x cells slots ws' lv st (pc + 3)) : St x cells slots ws lv (.int 4 :: .int 0 :: .ref a :: .int 0 :: .ref a0 :: st) pc := fun H locs ls hP hD hS hl => by
  obtain ⟨C1, C2, C3, C4, C5, C6, C7, C8, C9⟩ := C
  subst C8
  exact va_copyi C1.1 C1.2.1 (by rw [C1.2.2.1, ← C9]; exact hl.1.symm) C1.2.2.2.1 (C1.2.2.2.2 _ hlink) (C1.2.2.2.2 _ hnat) (C1.2.2.2.2 _ hstat) (C1.2.2.2.2 _ hini) C2 hP hD hS q0 q1 0 0 ha0 ha1 rfl rfl rfl (by decide) (by decide) (by decide) (by decide) (by decide) (fun i _ => rfl) (by rw [C4]; exact hframes) (by rw [C4]; exact hlocals) hd (fun H1 locs1 hP1 hD1 hS1 => kk H1 locs1 ls (by rw [← hw]; exact hP1) (by rw [← hw]; exact hD1) hS1 hl)
end WRAP
theorem sw_cases (n : Nat) (a : Int32) : (a.toInt < 0 ∨ (n : Int) < a.toInt) ∨ ∃ k : Nat, k ≤ n ∧ a = nI k := by
  by_cases h1 : a.toInt < 0
  · exact Or.inl (Or.inl h1)
  · by_cases h2 : (n : Int) < a.toInt
    · exact Or.inl (Or.inr h2)
    · obtain ⟨j, hj, e⟩ := nI_of (x := a) (fun h => h1 (by
        have := Int32.lt_iff_toInt_lt.mp h
        simpa using this))
      refine Or.inr ⟨j, ?_, e⟩
      rw [e, nI_toInt hj] at h2
      omega
