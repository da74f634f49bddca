/-! a split -/
theorem sM_2 (S : RS) (k : Nat) (x y : Nat → Int64) : sM (sM S k x) k y = sM S k y := by
  unfold sM
  refine Prod.ext rfl (Prod.ext rfl (Prod.ext rfl (funext fun j => ?_)))
  show up (up S.2.2.2 k x) k y j = up S.2.2.2 k y j
  by_cases q : j = k
  · subst q
    rw [up_same, up_same]
  · rw [up_ne q, up_ne q, up_ne q]
theorem sA_2 (S : RS) (k : Nat) (x y : Nat → Int32) : sA (sA S k x) k y = sA S k y := by
  unfold sA
  refine Prod.ext rfl (Prod.ext (funext fun j => ?_) rfl)
  show up (up S.2.1 k x) k y j = up S.2.1 k y j
  by_cases q : j = k
  · subst q
    rw [up_same, up_same]
  · rw [up_ne q, up_ne q, up_ne q]
def spS (G : RS) (mk : Nat → Int64) (en : Nat → Int32) : RS := sA (sM G 8 mk) 9 en
theorem spS_m (G : RS) (mk mk' : Nat → Int64) (en : Nat → Int32) : sM (spS G mk en) 8 mk' = spS G mk' en := by
  show sA (sM (sM G 8 mk) 8 mk') 9 en = _
  rw [sM_2]
  rfl
theorem spS_e (G : RS) (mk : Nat → Int64) (en en' : Nat → Int32) : sA (spS G mk en) 9 en' = spS G mk en' := sA_2 _ _ _ _
theorem gst_take {ls : List Lw} {p t : Nat} (i : Nat) (h : (gst ls p t).isSome = true) : (gst (ls.take i) p t).isSome = true := by
  induction ls generalizing p i with
  | nil => rw [List.take_nil]; exact h
  | cons a ls ih =>
    cases i with
    | zero => rfl
    | succ i =>
      have h : (match nx a (p % 4) t, gst ls (p / 4) t with | some s, some q => some (s + 4 * q) | _, _ => none).isSome = true := h
      show (match nx a (p % 4) t, gst (ls.take i) (p / 4) t with | some s, some q => some (s + 4 * q) | _, _ => none).isSome = true
      cases ha : nx a (p % 4) t with
      | none => rw [ha] at h; cases h
      | some s =>
        cases hb : gst ls (p / 4) t with
        | none => rw [ha, hb] at h; cases h
        | some q =>
          have := ih (p := p / 4) i (by rw [hb]; rfl)
          cases hc : gst (ls.take i) (p / 4) t with
          | none => rw [hc] at this; cases this
          | some q' => rfl
def pc (ls : List Lw) (p : Nat) (M m : Int64) (x : Int32) : Prop := ∃ e, e < 4 ^ ls.length ∧ x = nI e ∧ ∀ t, t < 64 → tb m t = true → tb M t = true ∧ gst ls p t = some e
section SPLIT
variable {N : Nat} {ls : List Lw} {G : RS}
theorem pc_on {p i A : Nat} {l : Lw} {M m m' : Int64} {x : Int32} (hl : ls[i]? = some l) (et : ls.take (i + 1) = ls.take i ++ [l]) (el : (ls.take i).length = i) (hi : i < 5) (hA : A < 4) (h : pc (ls.take i) p M m x) (hm : ∀ t, t < 64 → tb m' t = true → tb m t = true ∧ nx l (p / 4 ^ i % 4) t = some A) : pc (ls.take (i + 1)) p M m' (x ||| nI (A * 4 ^ i)) := by
  obtain ⟨e, he, ex, hx⟩ := h
  rw [el] at he
  have e4 : (4 : Nat) ^ i = 2 ^ (2 * i) := by rw [Nat.pow_mul]
  refine ⟨e + 4 ^ i * A, ?_, ?_, fun t ht hb => ?_⟩
  · rw [et, List.length_append, el, List.length_singleton, Nat.pow_succ]
    have : 4 ^ i * A ≤ 4 ^ i * 3 := Nat.mul_le_mul_left _ (by omega)
    omega
  · rw [ex, fa_or, Nat.mul_comm A, Nat.or_comm, e4, ← Nat.two_pow_add_eq_or_of_lt (by rw [← e4]; exact he), Nat.add_comm]
  · obtain ⟨h1, h2⟩ := hm t ht hb
    obtain ⟨h3, h4⟩ := hx t ht h1
    refine ⟨h3, ?_⟩
    rw [et, gst_snoc, el, h4, h2]
theorem e_split {p : Nat} {M : Int64} {Q : Int32 → RS → Prop} (hN : 100 ≤ N) (hG : GG ls G) (hp : p < 2 ^ 31) (hM : ∀ t, t < 64 → tb M t = true → (gst ls p t).isSome = true) (h : ∀ (c : Nat) (mk : Nat → Int64) (en : Nat → Int32), c ≤ 32 → (∀ j, j < c → pc ls p M (mk j) (en j)) → (∀ t, t < 64 → tb M t = true → ∃ j, j < c ∧ tb (mk j) t = true) → Q (nI c) (spS G mk en)) : fX0_split N G (nI p) M Q := by
  obtain ⟨h5, hsz, hmk⟩ := hG
  have outer := loop_i (σ := Nat × (Nat → Int64) × (Nat → Int32)) (fun w i s => fX0_split_20 N (nI p) (fun x40 G41 => Q x40 G41) Q w (nI s.1) (nI i) (spS G s.2.1 s.2.2)) (fun i s => 1 ≤ s.1 ∧ s.1 ≤ 2 ^ i ∧ (∀ j, j < s.1 → pc (ls.take i) p M (s.2.1 j) (s.2.2 j)) ∧ (∀ t, t < 64 → tb M t = true → ∃ j, j < s.1 ∧ tb (s.2.1 j) t = true)) ls.length ?_ ?_ N 0 (1, vp_updL (G.2.2.2 8) 0 M, upd (G.2.1 9) 0 0) (by omega) (by omega) ?_
  · refine ⟨vp_in_nI (n := 0) (by omega) (by omega), nm_e ⟨vp_in_nI (n := 0) (by omega) (by omega), nm_e ?_⟩⟩
    exact outer
  · rintro w ⟨c, mk, en⟩ ⟨a1, a2, a3, a4⟩
    refine lp_end hsz ?_
    rw [List.take_length] at a3
    refine h c mk en ?_ a3 a4
    have : 2 ^ ls.length ≤ 2 ^ 5 := Nat.pow_le_pow_right (by omega) h5
    omega
  · rintro w i ⟨c0, mk0, en0⟩ hi ⟨a1, a2, a3, a4⟩ ih
    have hi5 : i < 5 := by omega
    have hc0 : c0 ≤ 16 := by
      have : 2 ^ i ≤ 2 ^ 4 := Nat.pow_le_pow_right (by omega) (by omega)
      have a2 : c0 ≤ 2 ^ i := a2
      omega
    refine lp_in hsz (by omega) hi ?_
    rw [st_ix hp (by omega)]
    refine nm_e ?_
    obtain ⟨l, hl, et, el⟩ := take_in hi
    obtain ⟨A, B, hA, hB, e3, e4, hx⟩ := hmk i l hl (p / 4 ^ i % 4) (Nat.mod_lt _ (by omega))
    generalize hix : 4 * i + p / 4 ^ i % 4 = ix at *
    have hix20 : ix < 20 := by omega
    have hvx : vp_in (nI ix) 20 := vp_in_nI hix20 (by omega)
    have ex : (nI ix).toNatClampNeg = ix := nI_clamp (by omega)
    have inner := loop_i (σ := Nat × (Nat → Int64) × (Nat → Int32)) (fun w' j s => fX0_split_51 N (nI p) (nI i) (nI ix) (nI c0) (fun x37 G38 => (∀ x39 : Int32, x39 = nI i + 1 → fX0_split_20 N (nI p) (fun x40 G41 => Q x40 G41) Q w x37 x39 G38)) (fun x40 G41 => Q x40 G41) w' (nI s.1) (nI j) (spS G s.2.1 s.2.2)) (fun j s => c0 ≤ s.1 ∧ s.1 ≤ c0 + j ∧ (∀ j', j' < s.1 → (j' < j ∨ c0 ≤ j') → pc (ls.take (i + 1)) p M (s.2.1 j') (s.2.2 j')) ∧ (∀ j', j ≤ j' → j' < c0 → pc (ls.take i) p M (s.2.1 j') (s.2.2 j')) ∧ (∀ t, t < 64 → tb M t = true → ∃ j', j' < s.1 ∧ tb (s.2.1 j') t = true)) c0 ?_ ?_ N 0 (c0, mk0, en0) (by omega) (by omega) ⟨Nat.le_refl _, Nat.le_refl _, fun j' h1 h2 => absurd h2 (by omega), fun j' _ h2 => a3 j' h2, a4⟩
    · exact inner
    · rintro w' ⟨c, mk, en⟩ ⟨b1, b2, b3, b4, b5⟩
      refine lp_end rfl (nm_r (nI_1 i) (ih (c, mk, en) ⟨?_, ?_, fun j hj => b3 j hj (by have : j < c := hj; omega), b5⟩))
      · have b1 : c0 ≤ c := b1
        show 1 ≤ c
        have : 1 ≤ c0 := a1
        omega
      · have b2 : c ≤ c0 + c0 := b2
        have a2 : c0 ≤ 2 ^ i := a2
        show c ≤ 2 ^ (i + 1)
        rw [Nat.pow_succ]
        omega
    · rintro w' j ⟨c, mk, en⟩ hj ⟨b1, b2, b3, b4, b5⟩ ih2
      have b1 : c0 ≤ c := b1
      have b2 : c ≤ c0 + j := b2
      have hvj : vp_in (nI j) 32 := vp_in_nI (by omega) (by omega)
      have ej : (nI j).toNatClampNeg = j := nI_clamp (by omega)
      have pj := b4 j (Nat.le_refl _) hj
      have pj : pc (ls.take i) p M (mk j) (en j) := pj
      have hMs : ∀ t, t < 64 → tb (mk j) t = true → nx l (p / 4 ^ i % 4) t = some (if tb (G.2.2.2 2 ix) t then A else B) := by
        intro t ht hb
        obtain ⟨e, -, -, hh⟩ := pj
        obtain ⟨g1, g2⟩ := hh t ht hb
        have g3 := gst_take (i + 1) (hM t ht g1)
        rw [et, gst_snoc, el, g2, hx t ht] at g3
        rw [hx t ht]
        cases hbr : tb (G.2.2.2 1 ix) t with
        | false => rfl
        | true => rw [hbr] at g3; cases g3
      have pT : pc (ls.take (i + 1)) p M (mk j &&& G.2.2.2 2 ix) (en j ||| G.2.1 3 ix) := by
        rw [e3]
        refine pc_on hl et el hi5 hA pj (fun t ht hb => ?_)
        rw [tb_and, Bool.and_eq_true] at hb
        refine ⟨hb.1, ?_⟩
        rw [hMs t ht hb.1, if_pos hb.2]
      have pR : pc (ls.take (i + 1)) p M (mk j &&& (G.2.2.2 2 ix ^^^ (-1))) (en j ||| G.2.1 4 ix) := by
        rw [e4]
        refine pc_on hl et el hi5 hB pj (fun t ht hb => ?_)
        rw [tb_and, tb_not _ ht, Bool.and_eq_true] at hb
        refine ⟨hb.1, ?_⟩
        rw [hMs t ht hb.1, if_neg (by have := hb.2; intro c; rw [c] at this; cases this)]
      have both : ∀ t, t < 64 → tb (mk j) t = true → tb (mk j &&& G.2.2.2 2 ix) t = true ∨ tb (mk j &&& (G.2.2.2 2 ix ^^^ (-1))) t = true := by
        intro t ht hb
        rw [tb_and, tb_and, tb_not _ ht, hb]
        cases tb (G.2.2.2 2 ix) t
        · exact Or.inr rfl
        · exact Or.inl rfl
      have no0 : ∀ {y : Int64} {t : Nat}, y = 0 → ¬ tb y t = true := by
        intro y t e c
        rw [e, tb_0] at c
        cases c
      refine lp_in rfl (by omega) hj ⟨hvj, hvx, ?_⟩
      rw [ej, ex, show (spS G mk en).2.2.2 8 = mk from rfl, show (spS G mk en).2.2.2 2 = G.2.2.2 2 from rfl]
      refine nm_e ⟨hvj, hvx, nm_e ?_⟩
      -- one piece goes on
      have one : ∀ (m' : Int64) (y : Int32), pc (ls.take (i + 1)) p M m' y → (∀ t, t < 64 → tb (mk j) t = true → tb m' t = true) → fX0_split_51 N (nI p) (nI i) (nI ix) (nI c0) (fun x37 G38 => (∀ x39 : Int32, x39 = nI i + 1 → fX0_split_20 N (nI p) (fun x40 G41 => Q x40 G41) Q w x37 x39 G38)) (fun x40 G41 => Q x40 G41) w' (nI c) (nI (j + 1)) (spS G (vp_updL mk j m') (upd en j y)) := by
        intro m' y hy hcov
        refine ih2 (c, vp_updL mk j m', upd en j y) ⟨b1, (show c ≤ c0 + (j + 1) by omega), fun j' h1 h2 => ?_, fun j' h1 h2 => ?_, fun t ht hb => ?_⟩
        · show pc _ p M (vp_updL mk j m' j') (upd en j y j')
          by_cases q : j' = j
          · subst q
            rw [pk_uLs, pk_us]
            exact hy
          · rw [pk_uLn q, pk_un q]
            exact b3 j' h1 (by omega)
        · show pc _ p M (vp_updL mk j m' j') (upd en j y j')
          rw [pk_uLn (by omega), pk_un (by omega)]
          exact b4 j' (by omega) h2
        · obtain ⟨j', h1, h2⟩ := b5 t ht hb
          refine ⟨j', h1, ?_⟩
          show tb (vp_updL mk j m' j') t = true
          by_cases q : j' = j
          · subst q
            rw [pk_uLs]
            exact hcov t ht h2
          · rw [pk_uLn q]
            exact h2
      have s151 : (mk j &&& G.2.2.2 2 ix = 0 ∨ mk j &&& (G.2.2.2 2 ix ^^^ (-1)) = 0) → fX0_split_151 N (spS G mk en) (nI p) (nI c) (nI i) (nI ix) (nI c0) (nI j) (mk j &&& G.2.2.2 2 ix) (mk j &&& (G.2.2.2 2 ix ^^^ (-1))) (fun v4 v8 G' => fX0_split_51 N (nI p) (nI i) (nI ix) (nI c0) (fun x37 G38 => (∀ x39 : Int32, x39 = nI i + 1 → fX0_split_20 N (nI p) (fun x40 G41 => Q x40 G41) Q w x37 x39 G38)) (fun x40 G41 => Q x40 G41) w' v4 v8 G') (fun x37 G38 => (∀ x39 : Int32, x39 = nI i + 1 → fX0_split_20 N (nI p) (fun x40 G41 => Q x40 G41) Q w x37 x39 G38)) (fun x40 G41 => Q x40 G41) := by
        intro hz
        unfold fX0_split_151 fX0_split_171
        rw [ej, ex, show (spS G mk en).2.2.2 8 = mk from rfl]
        refine ⟨fun c1 => ⟨hvj, nm_e ⟨hvj, fun _ => ⟨hvx, hvj, nm_e (nm_r (nI_1 j) ?_)⟩, fun c2 => absurd c1 c2⟩⟩, fun c1 => ⟨hvj, nm_e ⟨hvj, fun c2 => absurd c2 c1, fun _ => ⟨hvx, hvj, nm_e (nm_r (nI_1 j) ?_)⟩⟩⟩⟩
        · rw [spS_m, spS_e]
          refine one _ _ pT (fun t ht hb => ?_)
          rcases both t ht hb with q | q
          · exact q
          · exact absurd q (no0 c1)
        · rw [spS_m, spS_e]
          refine one _ _ pR (fun t ht hb => ?_)
          rcases both t ht hb with q | q
          · rcases hz with z | z
            · exact absurd q (no0 z)
            · exact absurd z c1
          · exact q
      refine ⟨fun c1 => s151 (Or.inl c1), fun c1 => ⟨fun c2 => s151 (Or.inr c2), fun c2 => ⟨fun c3 => absurd (show nI 32 ≤ nI c from c3) (nI_ge (by omega) (by omega)), fun _ => ?_⟩⟩⟩
      have hvc : vp_in (nI c) 32 := vp_in_nI (by omega) (by omega)
      have ecl : (nI c).toNatClampNeg = c := nI_clamp (by omega)
      rw [ecl]
      refine ⟨hvc, nm_e ⟨hvj, hvx, hvc, nm_e (nm_r (nI_1 c) ?_)⟩⟩
      rw [spS_m, show (spS G (vp_updL mk c (mk j &&& G.2.2.2 2 ix)) en).2.1 9 = en from rfl, show (spS G (vp_updL mk c (mk j &&& G.2.2.2 2 ix)) en).2.1 3 = G.2.1 3 from rfl, spS_e]
      unfold fX0_split_151 fX0_split_171
      rw [ej, ex]
      refine ⟨fun c3 => absurd c3 c2, fun _ => ⟨hvj, nm_e ⟨hvj, fun c3 => absurd c3 c2, fun _ => ⟨hvx, hvj, nm_e (nm_r (nI_1 j) ?_)⟩⟩⟩⟩
      rw [show (spS G (vp_updL mk c (mk j &&& G.2.2.2 2 ix)) (upd en c (en j ||| G.2.1 3 ix))).2.2.2 8 = vp_updL mk c (mk j &&& G.2.2.2 2 ix) from rfl, spS_m]
      show fX0_split_51 N (nI p) (nI i) (nI ix) (nI c0) _ _ w' (nI (c + 1)) (nI (j + 1)) (sA (spS G _ (upd en c (en j ||| G.2.1 3 ix))) 9 (upd (upd en c (en j ||| G.2.1 3 ix)) j (upd en c (en j ||| G.2.1 3 ix) j ||| G.2.1 4 ix)))
      rw [spS_e, pk_un (show j ≠ c by omega)]
      refine ih2 (c + 1, vp_updL (vp_updL mk c (mk j &&& G.2.2.2 2 ix)) j (mk j &&& (G.2.2.2 2 ix ^^^ (-1))), upd (upd en c (en j ||| G.2.1 3 ix)) j (en j ||| G.2.1 4 ix)) ⟨(show c0 ≤ c + 1 by omega), (show c + 1 ≤ c0 + (j + 1) by omega), fun j' h1 h2 => ?_, fun j' h1 h2 => ?_, fun t ht hb => ?_⟩
      · show pc _ p M (vp_updL (vp_updL mk c (mk j &&& G.2.2.2 2 ix)) j (mk j &&& (G.2.2.2 2 ix ^^^ (-1))) j') (upd (upd en c (en j ||| G.2.1 3 ix)) j (en j ||| G.2.1 4 ix) j')
        by_cases q : j' = j
        · subst q
          rw [pk_uLs, pk_us]
          exact pR
        · rw [pk_uLn q, pk_un q]
          by_cases q2 : j' = c
          · subst q2
            rw [pk_uLs, pk_us]
            exact pT
          · rw [pk_uLn q2, pk_un q2]
            have h1 : j' < c + 1 := h1
            exact b3 j' (show j' < c by omega) (by omega)
      · show pc _ p M (vp_updL (vp_updL mk c (mk j &&& G.2.2.2 2 ix)) j (mk j &&& (G.2.2.2 2 ix ^^^ (-1))) j') (upd (upd en c (en j ||| G.2.1 3 ix)) j (en j ||| G.2.1 4 ix) j')
        rw [pk_uLn (by omega), pk_un (by omega), pk_uLn (by omega), pk_un (by omega)]
        exact b4 j' (by omega) h2
      · obtain ⟨j', h1, h2⟩ := b5 t ht hb
        have h1 : j' < c := h1
        by_cases q : j' = j
        · subst q
          rcases both t ht h2 with z | z
          · refine ⟨c, (show c < c + 1 by omega), ?_⟩
            show tb (vp_updL (vp_updL mk c _) _ _ c) t = true
            rw [pk_uLn (by omega), pk_uLs]
            exact z
          · refine ⟨j', (show j' < c + 1 by omega), ?_⟩
            show tb (vp_updL (vp_updL mk c _) j' _ j') t = true
            rw [pk_uLs]
            exact z
        · refine ⟨j', (show j' < c + 1 by omega), ?_⟩
          show tb (vp_updL (vp_updL mk c _) j _ j') t = true
          rw [pk_uLn q, pk_uLn (by omega)]
          exact h2
  · refine ⟨Nat.le_refl _, Nat.le_refl _, fun j hj => ?_, fun t ht hb => ⟨0, (show 0 < 1 by omega), ?_⟩⟩
    · have : j = 0 := by have : j < 1 := hj; omega
      subst this
      refine ⟨0, Nat.pow_pos (by omega), rfl, fun t ht hb => ⟨hb, rfl⟩⟩
    · exact hb
end SPLIT
