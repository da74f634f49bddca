/-! a law enters a game -/
section ENTER
variable {N : Nat} {G : RS}
def LY (ls : List Lw) (hs op : List Nat) (G : RS) : Prop := GG ls G ∧ OL op (G.1 6) (G.2.1 5) ∧ op.Nodup ∧ (∀ q, q ∈ op ↔ inC hs q) ∧ hs.length = ls.length ∧ op.length ≤ 4 ^ ls.length
theorem trd_lt {a s m : Nat} (hs : s < 4) (hm : m ≤ 3) : trd a s m < 4 := by
  unfold trd
  split
  · exact hs
  · split
    · split <;> omega
    · split <;> omega
theorem rno_lt {a s : Nat} (hs : s < 4) : rno a s < 4 := by
  unfold rno
  split <;> omega
theorem shl_4 {x i : Nat} (hx : x < 4) (hi : i < 5) : nI x <<< (((2 : Int32) * nI i) &&& 31) = nI (x * 4 ^ i) := by
  have h4 : (4 : Nat) ^ i ≤ 256 := Nat.le_trans (Nat.pow_le_pow_right (by omega) (show i ≤ 4 by omega)) (by decide)
  have e4 : (4 : Nat) ^ i = 2 ^ (2 * i) := by rw [Nat.pow_mul]
  rw [show (2 : Int32) * nI i = nI (2 * i) from pk_mul 2 i, pk_shlN (n := x) (nI (2 * i) &&& 31) (2 * i) (s_l (2 * i) (by omega)) (by rw [← e4]; have : x * 4 ^ i ≤ 4 * 256 := Nat.mul_le_mul (by omega) h4; omega), e4]
theorem e_begin {Q : RS → Prop} (h : ∀ G', LY [] [] [0] G' → Q G') : fX0_begin N G Q := by
  refine nm_e ⟨vp_in_nI (n := 0) (by omega) (by omega), nm_e (nm_e (h _ ⟨⟨by decide, rfl, fun i l hl => (by simp at hl)⟩, ⟨rfl, by decide, fun j q hq => ?_⟩, by simp, fun q => ?_, rfl, by decide⟩))⟩
  · cases j with
    | zero =>
      cases hq
      show upd (G.2.1 5) (nI 0).toNatClampNeg 0 0 = nI 0
      rw [nI_clamp (by omega), pk_us]
      rfl
    | succ j => simp at hq
  · rw [List.mem_singleton]
    exact Iff.rfl
theorem e_enter {ls : List Lw} {hs op : List Nat} {L : RS} {a m : Nat} {v3 : Int32} {Q : RS → Prop} (hN : 1100 ≤ N) (hLY : LY ls hs op G) (hlen : ls.length < 5) (ha : a ≤ 2) (hm : m ≤ 3) (e0 : L.1 0 = nI a) (h : ∀ G' op', LY (ls ++ [(a, m, tb (L.2.2.1 2), tb (L.2.2.1 3))]) (hs ++ [if a = 0 then 0 else if v3 = 0 then m else 3]) op' G' → Q G') : fX0_enter N G L (nI m) v3 Q := by
  obtain ⟨⟨h5, hsz, hmk⟩, hO, hnd, hmem, hhl, hol⟩ := hLY
  generalize hi : ls.length = i at *
  have hpos : 0 < (4 : Nat) ^ i := Nat.pow_pos (by omega)
  have hop : ∀ x, x ∈ op → x < 4 ^ i := fun x hx => by
    have := inC_lt ((hmem x).mp hx)
    rw [hhl] at this
    exact this
  unfold fX0_enter
  rw [hsz]
  refine ⟨fun _ => ?_, fun c => absurd (nI_lt (b := 5) hlen (by omega)) c⟩
  have key := loop_i (σ := RS) (fun w v s => fX0_enter_12 N L (nI m) v3 (fun G17 => ((¬ (L.1 0) = 0 → ((v3 = 0 → (fX0_enter_123 N G17 L (nI m) Q)) ∧ (¬ v3 = 0 → (fX0_enter_123 N G17 L 3 Q)))) ∧ ((L.1 0) = 0 → (fX0_enter_123 N G17 L 0 Q)))) Q w (nI v) s) (fun v s => s.1 = G.1 ∧ s.2.1 5 = G.2.1 5 ∧ (∀ x, x < 4 * i → s.2.2.2 1 x = G.2.2.2 1 x ∧ s.2.2.2 2 x = G.2.2.2 2 x ∧ s.2.1 3 x = G.2.1 3 x ∧ s.2.1 4 x = G.2.1 4 x) ∧ (∀ u, u < v → s.2.2.2 1 (4 * i + u) = brk a (L.2.2.1 2) (L.2.2.1 3) u m ∧ s.2.2.2 2 (4 * i + u) = trn a (L.2.2.1 2) (L.2.2.1 3) u ∧ s.2.1 3 (4 * i + u) = nI (trd a u m * 4 ^ i) ∧ s.2.1 4 (4 * i + u) = nI (rno a u * 4 ^ i))) 4 ?_ ?_ N 0 G (by omega) (by omega) ⟨rfl, rfl, fun _ _ => ⟨rfl, rfl, rfl, rfl⟩, fun u hu => absurd hu (by omega)⟩
  · exact key
  · rintro w s ⟨s1, s5, sold, snew⟩
    refine lp_end (m := 4) (n := 4) rfl ?_
    have wid : ∀ hh, hh ≤ 3 → hh = (if a = 0 then 0 else if v3 = 0 then m else 3) → fX0_enter_123 N s L (nI hh) Q := by
      intro hh hh3 ehh
      refine e_widen (i := i) (op := op) hN hlen hh3 (by rw [s1]; exact hsz) (by rw [s1, s5]; exact hO) hop hol (fun a5 hO5 => nm_e (h _ (opw op (4 ^ i) hh) ⟨⟨?_, ?_, ?_⟩, hO5, opw_nd hpos hop hnd hh, fun q => ?_, ?_, ?_⟩))
      · rw [List.length_append, hi, List.length_singleton]; omega
      · show s.1 0 + 1 = _
        rw [s1, hsz, nI_1, List.length_append, hi]
        rfl
      · intro i' l' hl'
        show mk1 l' i' (s.2.2.2 1) (s.2.2.2 2) (s.2.1 3) (s.2.1 4)
        by_cases z : i' < i
        · rw [List.getElem?_append_left (by omega)] at hl'
          intro u hu
          obtain ⟨A, B, hA, hB, x3, x4, hx⟩ := hmk i' l' hl' u hu
          obtain ⟨y1, y2, y3, y4⟩ := sold (4 * i' + u) (by omega)
          rw [y1, y2, y3, y4]
          exact ⟨A, B, hA, hB, x3, x4, hx⟩
        · rw [List.getElem?_append_right (by omega)] at hl'
          have z2 : i' = i := by
            have := (List.getElem?_eq_some_iff.mp hl').1
            rw [List.length_singleton] at this
            omega
          subst z2
          rw [hi, Nat.sub_self] at hl'
          cases hl'
          intro u hu
          obtain ⟨y1, y2, y3, y4⟩ := snew u hu
          rw [y1, y2]
          exact ⟨trd a u m, rno a u, trd_lt hu hm, rno_lt hu, y3, y4, fun t ht => mk_ok ha ht⟩
      · rw [opw_mem hpos hop, ← ehh, inC_snoc hh3, hhl, hmem]
      · rw [List.length_append, List.length_append, hhl, hi]
        rfl
      · rw [opw_len, List.length_append, hi, List.length_singleton, Nat.pow_succ]
        exact Nat.mul_le_mul hol (by omega)
    rw [e0]
    refine ⟨fun c => ?_, fun c => ?_⟩
    · have a0 : ¬ a = 0 := fun z => c (by rw [z]; rfl)
      refine ⟨fun c3 => wid m hm ?_, fun c3 => wid 3 (by omega) ?_⟩
      · rw [if_neg a0, if_pos c3]
      · rw [if_neg a0, if_neg c3]
    · have a0 : a = 0 := (nI_eq (b := 0) (by omega) (by omega)).mp c
      refine wid 0 (by omega) ?_
      rw [if_pos a0]
  · rintro w v s hv ⟨s1, s5, sold, snew⟩ ih
    refine lp_in (m := 4) (n := 4) rfl (by omega) hv ?_
    rw [s1, hsz, show (4 : Int32) * nI i = nI (4 * i) from pk_mul 4 i, nI_add]
    have hv20 : vp_in (nI (4 * i + v)) 20 := vp_in_nI (by omega) (by omega)
    have ex : (nI (4 * i + v)).toNatClampNeg = 4 * i + v := nI_clamp (by omega)
    refine nm_e (e_breaking ha (by omega) hm e0 ⟨hv20, nm_e (e_turning ha (by omega) e0 ⟨hv20, nm_e (e_turned ha (by omega) hm e0 ⟨hv20, nm_e (e_runOn ha (by omega) e0 ⟨hv20, nm_e (nm_r (nI_1 v) (ih _ ⟨s1, s5, fun x hx => ?_, fun u hu => ?_⟩))⟩)⟩)⟩)⟩)
    · rw [ex]
      obtain ⟨y1, y2, y3, y4⟩ := sold x hx
      exact ⟨(pk_uLn (by omega)).trans y1, (pk_uLn (by omega)).trans y2, (pk_un (by omega)).trans y3, (pk_un (by omega)).trans y4⟩
    · rw [ex]
      have z0 : s.1 0 = nI i := by rw [s1]; exact hsz
      by_cases z : u = v
      · subst z
        refine ⟨pk_uLs, pk_uLs, pk_us.trans ?_, pk_us.trans ?_⟩
        · show nI (trd a u m) <<< (((2 : Int32) * (s.1 0)) &&& 31) = _
          rw [z0]
          exact shl_4 (trd_lt hv hm) hlen
        · show nI (rno a u) <<< (((2 : Int32) * (s.1 0)) &&& 31) = _
          rw [z0]
          exact shl_4 (rno_lt hv) hlen
      · obtain ⟨y1, y2, y3, y4⟩ := snew u (by omega)
        exact ⟨(pk_uLn (by omega)).trans y1, (pk_uLn (by omega)).trans y2, (pk_un (by omega)).trans y3, (pk_un (by omega)).trans y4⟩
end ENTER
