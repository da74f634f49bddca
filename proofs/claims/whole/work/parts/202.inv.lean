/-! the game, as the document has it: a law's sort, number, first and second expression by the told -/
abbrev Lw : Type := Nat × Nat × (Nat → Bool) × (Nat → Bool)
/-- the state behind a tick, none: broken -/
def nx (l : Lw) (s t : Nat) : Option Nat :=
  if l.1 = 0 then (if l.2.2.1 t = true then none else some s)
  else if l.1 = 1 then (if l.2.2.2 t = true then some 0 else if 0 < s then (if s = 1 then none else some (s - 1)) else if l.2.2.1 t = true then (if l.2.1 = 0 then none else some l.2.1) else some 0)
  else if 0 < s ∧ ¬ l.2.2.2 t = true then none else if l.2.2.1 t = true ∧ s - 1 < l.2.1 then some l.2.1 else some (s - 1)
/-- a position behind a tick: base four, the first law's state lowest -/
def gst : List Lw → Nat → Nat → Option Nat
  | [], _, _ => some 0
  | l :: ls, p, t => match nx l (p % 4) t, gst ls (p / 4) t with
    | some s, some q => some (s + 4 * q)
    | _, _ => none
/-- the world can break one in at most m ticks -/
def Lst (ls : List Lw) : Nat → Nat → Prop
  | 0, _ => False
  | m + 1, p => ∃ i, i < 8 ∧ ∀ o, o < 8 → ∀ q, gst ls p (8 * i + o) = some q → Lst ls m q
def Safe (ls : List Lw) (p : Nat) : Prop := ∀ m, ¬ Lst ls m p
/-- in how many it loses, 0: it doesn't -/
def Rk (ls : List Lw) (p r : Nat) : Prop := (r = 0 ∧ Safe ls p) ∨ (0 < r ∧ Lst ls r p ∧ ¬ Lst ls (r - 1) p)
/-- the places that are laid: no state above the law's highest -/
def inC : List Nat → Nat → Prop
  | [], p => p = 0
  | h :: hs, p => p % 4 ≤ h ∧ inC hs (p / 4)
def hi1 (l : Lw) : Nat := if l.1 = 0 then 0 else l.2.1
def tb (E : Int64) (t : Nat) : Bool := E.toBitVec.getLsbD t
def lawL (so nu : Nat → Int32) (fi se : Nat → Int64) (w : Nat) : Lw := ((so w).toNatClampNeg, (nu w).toNatClampNeg, fun t => tb (fi w) t, fun t => tb (se w) t)
def mem (set n : Nat) : List Nat := (List.range n).filter (fun w => set.testBit w)
/-- a member's masks and ends, as the class lays them for its place i among the members -/
def mk1 (l : Lw) (i : Nat) (br tu : Nat → Int64) (td ro : Nat → Int32) : Prop := ∀ s, s < 4 → ∃ A B, A < 4 ∧ B < 4 ∧ td (4 * i + s) = nI (A * 4 ^ i) ∧ ro (4 * i + s) = nI (B * 4 ^ i) ∧ ∀ t, t < 64 → nx l s t = if tb (br (4 * i + s)) t then none else some (if tb (tu (4 * i + s)) t then A else B)
def GM (ls : List Lw) (sz : Int32) (br tu : Nat → Int64) (td ro : Nat → Int32) : Prop := sz = nI ls.length ∧ ∀ (i : Nat) (l : Lw), ls[i]? = some l → mk1 l i br tu td ro
def IPl (n : Nat) (isP pS pA cS cP : Int32) (ss : RS) (so nu : Nat → Int32) (fi se : Nat → Int64) : Prop :=
  (isP = 0 ∧ cS = 0) ∨ (isP = 1 ∧ ∃ set p : Nat, 0 < set ∧ set < 2 ^ n ∧ (mem set n).length ≤ 5 ∧ pS = nI set ∧ cS = nI set ∧ pA = nI p ∧ cP = nI p ∧
    GM ((mem set n).map (lawL so nu fi se)) (ss.1 0) (ss.2.2.2 1) (ss.2.2.2 2) (ss.2.1 3) (ss.2.1 4) ∧ inC (((mem set n).map (lawL so nu fi se)).map hi1) p ∧
    ∀ q, inC (((mem set n).map (lawL so nu fi se)).map hi1) q → ∃ r, r ≤ 1024 ∧ ss.2.1 7 q = nI r ∧ Rk ((mem set n).map (lawL so nu fi se)) q r)
def ITr (n : Nat) (tS mS sz : Int32) (be ma : Nat → Int32) : Prop := ∃ set : Nat, set < 2 ^ n ∧ tS = nI set ∧ mS = nI set ∧ (0 < set → sz = nI (mem set n).length ∧ (mem set n).length ≤ 4 ∧ ∀ i, i < (mem set n).length → be i = ma i)
/-- what both sides hold, together -/
def Inv (sb : RS) (lw : Nat → Option Nat) (st sp sd ss sy : RS) (si : Nat → Option Nat) (lp : List Nat) (pf : Nat → RS) (S : RS) : Prop :=
  ∃ (n : Nat) (ad : Nat → Nat), IW n ad (sb.1 2) lw lp pf (S.1 13) (S.2.1 3) (S.2.1 4) (S.2.2.2 5) (S.2.2.2 6) (S.2.1 12) (S.2.1 7) (S.2.1 8) (S.2.1 9) (S.2.1 10) (S.2.1 11) (S.2.1 34) ∧
    IT (st.1 1) (st.2.1 0) (S.1 2) (S.2.1 1) ∧ ID (sb.1 3) (S.1 0) ∧ IR (sb.1 5) (sb.2.1 4) (S.1 31) (S.2.1 30) ∧ IP (sp.1 1) (sp.2.1 0) (S.1 32) (S.2.1 33) ∧
    IPl n (S.1 21) (S.1 22) (S.1 23) (sb.1 9) (sb.1 10) ss (S.2.1 3) (S.2.1 4) (S.2.2.2 5) (S.2.2.2 6) ∧ ITr n (sb.1 12) (S.1 26) (sy.1 3) (sy.2.1 2) (S.2.1 25)
theorem inv_0 : Inv zRS (fun _ => none) zRS zRS zRS zRS zRS (fun _ => none) [] (fun _ => zRS) zRS := by
  refine ⟨0, fun _ => 0, ⟨by omega, rfl, rfl, fun i hi => absurd hi (by omega), fun i j hi => absurd hi (by omega), fun i _ _ => rfl⟩, ⟨0, by omega, rfl, rfl, fun j hj => absurd hj (by omega)⟩, ⟨rfl, 0, by omega, rfl⟩, ⟨0, by omega, rfl, rfl, fun j hj => absurd hj (by omega)⟩, ⟨0, by omega, rfl, rfl, fun j hj => ⟨rfl, 0, Nat.two_pow_pos j, rfl⟩⟩, Or.inl ⟨rfl, rfl⟩, ⟨0, by omega, rfl, rfl, fun h => absurd h (by omega)⟩⟩
