/-! the class's game: what stays whole, where a tick leads -/
theorem gst_snoc (ls : List Lw) (l : Lw) (p t : Nat) : gst (ls ++ [l]) p t = match gst ls p t, nx l (p / 4 ^ ls.length % 4) t with
    | some e, some z => some (e + 4 ^ ls.length * z)
    | _, _ => none := by
  induction ls generalizing p with
  | nil =>
    show (match nx l (p % 4) t, some 0 with | some s, some q => some (s + 4 * q) | _, _ => none) = _
    simp only [gst, List.length_nil, Nat.pow_zero, Nat.div_one]
    cases nx l (p % 4) t with
    | none => rfl
    | some z => simp
  | cons a ls ih =>
    show (match nx a (p % 4) t, gst (ls ++ [l]) (p / 4) t with | some s, some q => some (s + 4 * q) | _, _ => none) = _
    rw [ih, List.length_cons, Nat.div_div_eq_div_mul, show 4 * 4 ^ ls.length = 4 ^ (ls.length + 1) by rw [Nat.pow_succ]; omega]
    show _ = match (match nx a (p % 4) t, gst ls (p / 4) t with | some s, some q => some (s + 4 * q) | _, _ => none), nx l (p / 4 ^ (ls.length + 1) % 4) t with | some e, some z => some (e + 4 ^ (ls.length + 1) * z) | _, _ => none
    cases nx a (p % 4) t with
    | none => rfl
    | some s =>
      cases gst ls (p / 4) t with
      | none => rfl
      | some q =>
        cases nx l (p / 4 ^ (ls.length + 1) % 4) t with
        | none => rfl
        | some z =>
          show some _ = some _
          congr 1
          rw [Nat.pow_succ, Nat.mul_add, ← Nat.mul_assoc, Nat.mul_comm (4 ^ ls.length) 4]
          omega
theorem gst_lt {ls : List Lw} (hls : ∀ l ∈ ls, ∀ s t z, s < 4 → nx l s t = some z → z < 4) {p t q : Nat} (h : gst ls p t = some q) : q < 4 ^ ls.length := by
  induction ls generalizing p q with
  | nil =>
    cases h
    decide
  | cons a ls ih =>
    have h : (match nx a (p % 4) t, gst ls (p / 4) t with | some s, some q => some (s + 4 * q) | _, _ => none) = some q := h
    cases ha : nx a (p % 4) t with
    | none => rw [ha] at h; cases h
    | some s =>
      cases hb : gst ls (p / 4) t with
      | none => rw [ha, hb] at h; cases h
      | some q' =>
        rw [ha, hb] at h
        have h1 := hls a (List.mem_cons_self ..) (p % 4) t s (Nat.mod_lt _ (by omega)) ha
        have h2 := ih (fun l hl => hls l (List.mem_cons_of_mem _ hl)) hb
        cases h
        rw [List.length_cons, Nat.pow_succ]
        omega
theorem st_ix {p i : Nat} (hp : p < 2 ^ 31) (hi : i ≤ 5) : ((4 : Int32) * nI i) + (((nI p).toUInt32 >>> (((2 : Int32) * nI i).toUInt32 &&& Int32.toUInt32 31)).toInt32 &&& (3 : Int32)) = nI (4 * i + p / 4 ^ i % 4) := by
  rw [show (2 : Int32) * nI i = nI (2 * i) from pk_mul 2 i, ush_c (by omega) (by omega), pk_andN (Nat.lt_of_le_of_lt (Nat.div_le_self _ _) (by omega)) 2 (by decide), Nat.pow_mul, show (4 : Int32) * nI i = nI (4 * i) from pk_mul 4 i, nI_add]
section GAME
variable {N : Nat} {ls : List Lw} {G : RS}
/-- a game's masks lie as the laws say -/
def GG (ls : List Lw) (G : RS) : Prop := ls.length ≤ 5 ∧ GM ls (G.1 0) (G.2.2.2 1) (G.2.2.2 2) (G.2.1 3) (G.2.1 4)
theorem take_in {i : Nat} (hi : i < ls.length) : ∃ l, ls[i]? = some l ∧ ls.take (i + 1) = ls.take i ++ [l] ∧ (ls.take i).length = i := by
  refine ⟨ls[i], List.getElem?_eq_getElem hi, ?_, ?_⟩
  · rw [List.take_succ, List.getElem?_eq_getElem hi]
    rfl
  · rw [List.length_take]
    omega
theorem e_unbroken {p m : Nat} {Q : Int64 → Prop} (hN : 100 ≤ N) (hG : GG ls G) (hp : p < 2 ^ 31) (hm : m ≤ ls.length) (h : ∀ M, (∀ t, t < 64 → tb M t = (gst (ls.take m) p t).isSome) → Q M) : fX0_unbroken N G (nI p) (nI m) Q := by
  obtain ⟨h5, hsz, hmk⟩ := hG
  have key := loop_i (σ := Int64) (fun w i x => fX0_unbroken_7 N G (nI p) (nI m) (fun x6 => Q x6) Q w x (nI i)) (fun i x => ∀ t, t < 64 → tb x t = (gst (ls.take i) p t).isSome) m (fun w s hs => lp_end rfl (h s hs)) (fun w i s hi hs ih => lp_in rfl (by omega) hi ⟨fun c => absurd (show nI 5 ≤ nI i from c) (nI_ge (by omega) (by omega)), fun _ => ?_⟩) N 0 (-1) (by omega) (by omega) (fun t ht => by rw [tb_m1 ht]; rfl)
  · exact key
  · rw [st_ix hp (by omega), nI_clamp (by omega)]
    refine ⟨vp_in_nI (by omega) (by omega), nm_e (nm_r (nI_1 i) (ih _ (fun t ht => ?_)))⟩
    obtain ⟨l, hl, et, el⟩ := take_in (ls := ls) (i := i) (by omega)
    obtain ⟨A, B, hA, hB, e3, e4, hx⟩ := hmk i l hl (p / 4 ^ i % 4) (Nat.mod_lt _ (by omega))
    rw [tb_and, tb_not _ ht, hs t ht, et, gst_snoc, el, hx t ht]
    cases gst (ls.take i) p t with
    | none => rfl
    | some e =>
      cases tb (G.2.2.2 1 (4 * i + p / 4 ^ i % 4)) t <;> rfl
/-- the pieces that a split lays: every unbroken tick in one, with the place behind -/
def SP (ls : List Lw) (p : Nat) (M : Int64) (c : Nat) (mk : Nat → Int64) (en : Nat → Int32) : Prop := (∀ j, j < c → ∃ e, e < 4 ^ ls.length ∧ en j = nI e ∧ ∀ t, t < 64 → tb (mk j) t = true → tb M t = true ∧ gst ls p t = some e) ∧ (∀ t, t < 64 → tb M t = true → ∃ j, j < c ∧ tb (mk j) t = true)
end GAME
