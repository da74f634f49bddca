/-! follows: the reference, and both -/
/-- the invariant sees the same -/
def gh (S S' : RS) : Prop := (∀ j, j ∈ [13, 2, 0, 31, 32, 21, 22, 23, 26] → S'.1 j = S.1 j) ∧ (∀ j, j ∈ [3, 4, 12, 7, 8, 9, 10, 11, 34, 1, 30, 33, 25] → S'.2.1 j = S.2.1 j) ∧ S'.2.2.2 = S.2.2.2
theorem gh_0 (S : RS) : gh S S := ⟨fun _ _ => rfl, fun _ _ => rfl, rfl⟩
theorem gh_of {S S' : RS} (g : gf S S') : gh S S' := ⟨fun j hj => g.1 j (fun e => by subst e; exact absurd hj (by decide)) (fun e => by subst e; exact absurd hj (by decide)) (fun e => by subst e; exact absurd hj (by decide)), fun j hj => g.2.1 j (fun e => by subst e; exact absurd hj (by decide)) (fun e => by subst e; exact absurd hj (by decide)) (fun e => by subst e; exact absurd hj (by decide)) (fun e => by subst e; exact absurd hj (by decide)) (fun e => by subst e; exact absurd hj (by decide)), g.2.2⟩
theorem gh_t {S S1 S2 : RS} (h : gh S S1) (g : gh S1 S2) : gh S S2 := ⟨fun j hj => (g.1 j hj).trans (h.1 j hj), fun j hj => (g.2.1 j hj).trans (h.2.1 j hj), g.2.2.trans h.2.2⟩
theorem gh_I {S S' : RS} (h : gh S S') {k : Nat} (hk : ¬ k ∈ [13, 2, 0, 31, 32, 21, 22, 23, 26]) (x : Int32) : gh S (sI S' k x) := ⟨fun j hj => by rw [← h.1 j hj]; exact up_ne (fun e => hk (by rw [← e]; exact hj)), h.2.1, h.2.2⟩
theorem gh_A {S S' : RS} (h : gh S S') {k : Nat} (hk : ¬ k ∈ [3, 4, 12, 7, 8, 9, 10, 11, 34, 1, 30, 33, 25]) (x : Nat → Int32) : gh S (sA S' k x) := ⟨h.1, fun j hj => by rw [← h.2.1 j hj]; exact up_ne (fun e => hk (by rw [← e]; exact hj)), h.2.2⟩
theorem gst_mod : ∀ (ls : List Lw) (p t : Nat), gst ls (p % 4 ^ ls.length) t = gst ls p t
  | [], _, _ => rfl
  | l :: ls, p, t => by
    have e1 : p % 4 ^ (ls.length + 1) % 4 = p % 4 := Nat.mod_mod_of_dvd _ ⟨4 ^ ls.length, by rw [Nat.pow_succ, Nat.mul_comm]⟩
    have e2 : p % 4 ^ (ls.length + 1) / 4 = p / 4 % 4 ^ ls.length := by
      rw [Nat.pow_succ, Nat.mul_comm, Nat.mod_mul_right_div_self]
    show (match nx l (p % 4 ^ (ls.length + 1) % 4) t, gst ls (p % 4 ^ (ls.length + 1) / 4) t with | some s, some q => some (s + 4 * q) | _, _ => none) = _
    rw [e1, e2, gst_mod ls (p / 4) t]
    rfl
theorem ST_pre {ls : List Lw} {l : Lw} {S : RS} (h : ST (ls ++ [l]) S) : ST ls (sI S 16 (nI ls.length)) := by
  obtain ⟨h5, h16, ht⟩ := h
  rw [List.length_append, List.length_singleton] at h5
  refine ⟨by omega, rfl, fun i l' hl => ht i l' ?_⟩
  rw [List.getElem?_append_left (List.getElem?_eq_some_iff.mp hl).1]
  exact hl
section FOLLOWS
variable {N : Nat} {sb : RS} {lw : Nat → Option Nat} {st sp sd sd' ss sy : RS} {si : Nat → Option Nat} {lp : List Nat} {pf : Nat → RS} {S S' : RS}
theorem Inv_gh (h : Inv sb lw st sp sd ss sy si lp pf S) (g : gh S S') : Inv sb lw st sp sd' ss sy si lp pf S' := by
  unfold Inv
  rw [g.1 13 (by decide), g.1 2 (by decide), g.1 0 (by decide), g.1 31 (by decide), g.1 32 (by decide), g.1 21 (by decide), g.1 22 (by decide), g.1 23 (by decide), g.1 26 (by decide), g.2.1 3 (by decide), g.2.1 4 (by decide), g.2.1 12 (by decide), g.2.1 7 (by decide), g.2.1 8 (by decide), g.2.1 9 (by decide), g.2.1 10 (by decide), g.2.1 11 (by decide), g.2.1 34 (by decide), g.2.1 1 (by decide), g.2.1 30 (by decide), g.2.1 33 (by decide), g.2.1 25 (by decide), g.2.2]
  exact h
theorem MB_ws {n : Nat} {ws : List Nat} {ad : Nat → Nat} {cnt wa : Int32} {byt ow wo ea re gu le : Nat → Int32} (hW : IW n ad cnt lw lp pf wa (S.2.1 3) (S.2.1 4) (S.2.2.2 5) (S.2.2.2 6) byt ow wo ea re gu le) (g3 : S'.2.1 3 = S.2.1 3) (gl : S'.2.2.2 = S.2.2.2) (hws : ∀ x, x ∈ ws → x < n) (hm : ∀ i w, ws[i]? = some w → S'.2.1 14 i = nI w ∧ S'.2.1 15 i = S.2.1 4 w) : MB (ws.map (lawL (S.2.1 3) (S.2.1 4) (S.2.2.2 5) (S.2.2.2 6))) S' := by
  intro i l hl
  rw [List.getElem?_map] at hl
  cases hw : ws[i]? with
  | none => rw [hw] at hl; cases hl
  | some w =>
    rw [hw] at hl
    cases hl
    have hwn := hws w (List.mem_of_getElem? hw)
    obtain ⟨e14, e15⟩ := hm i w hw
    obtain ⟨-, -, -, ⟨⟨a, ha, ea⟩, ⟨m, hm', em⟩, -⟩⟩ := hW.2.2.2.1 w hwn
    refine ⟨w, a, m, by have := hW.1; omega, ha, hm', e14, by rw [e15, em], by rw [g3]; exact ea, ?_⟩
    unfold lawL
    rw [ea, em, nI_clamp (by omega), nI_clamp (by omega), gl]
theorem e_reach6 {ls : List Lw} {l : Lw} {Q : Int32 → RS → Prop} {S1 : RS} (hN : 1100 ≤ N) (h4 : ls.length ≤ 4) (hb : ∀ p t q, gst (ls ++ [l]) p t = some q → q < 4 ^ (ls.length + 1)) (hg : gh S S1) (hT : ST (ls ++ [l]) S1) (hV : VS (ls ++ [l]) (fun q => q < 4 ^ (ls.length + 1)) [0] (S1.2.1 40)) (hR : RW [0] 1 (S1.2.1 39)) (h1 : (¬ ∃ p, RC (ls ++ [l]) p ∧ BA ls l p) → ∀ S', gh S S' → Q 1 S') (h0 : (∃ p, RC (ls ++ [l]) p ∧ BA ls l p) → ∀ S', gh S S' → Q 0 S') : fX6_follows_109 N (nI ls.length) (nI (4 ^ ls.length)) (fun S48 => Q 1 S48) Q N 1 0 S1 := by
  have hX : 4 ^ (ls.length + 1) ≤ 1024 := p4 (by omega)
  have hX4 : 4 ^ (ls.length + 1) = 4 ^ ls.length * 4 := Nat.pow_succ ..
  have hpos : 0 < 4 ^ ls.length := Nat.pow_pos (by omega)
  have inner : ∀ (i p : Nat) (rw : List Nat) (s0 : RS) (K : Int32 → RS → Prop), rw[i]? = some p → gh S s0 → ST (ls ++ [l]) s0 → VS (ls ++ [l]) (fun q => q < 4 ^ (ls.length + 1)) rw (s0.2.1 40) → RW rw (nI rw.length) (s0.2.1 39) → (∀ ext s', gh S s' → ST (ls ++ [l]) s' → VS (ls ++ [l]) (fun q => q < 4 ^ (ls.length + 1)) (rw ++ ext) (s'.2.1 40) → RW (rw ++ ext) (nI (rw ++ ext).length) (s'.2.1 39) → ¬ BA ls l p → (∀ t, t < 64 → ∀ q, gst (ls ++ [l]) p t = some q → q ∈ rw ++ ext) → K (nI (rw ++ ext).length) s') → fX6_follows_119 N (nI ls.length) (nI (4 ^ ls.length)) (nI i) K Q N (nI rw.length) 0 s0 := by
    intro i p rw s0 K hp a1 a2 a3 a4 hK
    have hpm : p ∈ rw := List.mem_of_getElem? hp
    obtain ⟨hpX, hpR⟩ := a3.2.1 p hpm
    have hpX : p < 4 ^ (ls.length + 1) := hpX
    have hrl : rw.length ≤ 1024 := nd_len a3.1 (fun q hq => Nat.lt_of_lt_of_le (a3.2.1 q hq).1 hX)
    have hi : i < rw.length := (List.getElem?_eq_some_iff.mp hp).1
    have hdiv : p / 4 ^ ls.length < 4 := Nat.div_lt_of_lt_mul (by omega)
    have hmod : p / 4 ^ ls.length % 4 = p / 4 ^ ls.length := Nat.mod_eq_of_lt hdiv
    have key := loop_i (σ := Int32 × RS) (fun w t s => fX6_follows_119 N (nI ls.length) (nI (4 ^ ls.length)) (nI i) K Q w s.1 (nI t) s.2) (fun t s => ∃ ext, s.1 = nI (rw ++ ext).length ∧ gh S s.2 ∧ ST (ls ++ [l]) s.2 ∧ VS (ls ++ [l]) (fun q => q < 4 ^ (ls.length + 1)) (rw ++ ext) (s.2.2.1 40) ∧ RW (rw ++ ext) (nI (rw ++ ext).length) (s.2.2.1 39) ∧ (∀ t', t' < t → (gst ls p t').isSome = true → ¬ nx l (p / 4 ^ ls.length % 4) t' = none) ∧ (∀ t', t' < t → ∀ q, gst (ls ++ [l]) p t' = some q → q ∈ rw ++ ext)) 64 ?_ ?_ N 0 (nI rw.length, s0) (by omega) (by omega) ⟨[], by rw [List.append_nil], a1, a2, by rw [List.append_nil]; exact a3, by rw [List.append_nil]; exact a4, fun t' ht' => absurd ht' (by omega), fun t' ht' => absurd ht' (by omega)⟩
    · exact key
    · rintro w ⟨v, s⟩ ⟨ext, e1, e2, e3, e4, e5, e6, e7⟩
      have e1 : v = nI (rw ++ ext).length := e1
      subst e1
      refine lp_end (m := 64) (n := 64) rfl (hK ext s e2 e3 e4 e5 ?_ (fun t ht => e7 t ht))
      rintro ⟨t, ht, h1, h2⟩
      exact e6 t ht h1 h2
    · rintro w t ⟨v, s⟩ ht ⟨ext, e1, e2, e3, e4, e5, e6, e7⟩ ih
      have e1 : v = nI (rw ++ ext).length := e1
      subst e1
      have e2 : gh S s := e2
      have e3 : ST (ls ++ [l]) s := e3
      have e4 : VS (ls ++ [l]) (fun q => q < 4 ^ (ls.length + 1)) (rw ++ ext) (s.2.1 40) := e4
      have e5 : RW (rw ++ ext) (nI (rw ++ ext).length) (s.2.1 39) := e5
      have hlen : (rw ++ ext).length ≤ 1024 := nd_len e4.1 (fun q hq => Nat.lt_of_lt_of_le (e4.2.1 q hq).1 hX)
      have e39 : s.2.1 39 i = nI p := e5.2 i p (by rw [List.getElem?_append_left hi]; exact hp)
      refine lp_in (m := 64) (n := 64) rfl (by omega) ht (nm_e ⟨vp_in_nI (by omega) (by omega), fun c => absurd ((nI_eq (b := 0) (by omega) (by omega)).mp c) (by omega), ?_⟩)
      show fX6_behind N (sI s 16 (nI ls.length)) (s.2.1 39 (nI i).toNatClampNeg - s.2.1 39 (nI i).toNatClampNeg / nI (4 ^ ls.length) * nI (4 ^ ls.length)) (nI t) _
      rw [nI_clamp (by omega), e39, pk_rem (by omega) (by omega) (by omega)]
      refine e_behind (by omega) (ST_pre e3) (Nat.lt_of_le_of_lt (Nat.mod_le _ _) (by omega)) ht ?_
      rw [gst_mod]
      refine ⟨vp_in_nI (by omega) (by omega), fun c => absurd ((nI_eq (b := 0) (by omega) (by omega)).mp c) (by omega), ?_⟩
      obtain ⟨-, e16, htab⟩ := id e3
      obtain ⟨htb, hz4⟩ := htab ls.length l (by simp) (p / 4 ^ ls.length) hdiv t ht
      have eix : (((((4 : Int32) * nI ls.length) + (nI p / nI (4 ^ ls.length))) * (64 : Int32)) + nI t) = nI ((4 * ls.length + p / 4 ^ ls.length) * 64 + t) := by
        rw [pk_div (by omega) (by omega) (by omega), show (4 : Int32) = nI 4 from rfl, show (64 : Int32) = nI 64 from rfl, pk_mul, nI_add, pk_mul, nI_add]
      show vp_in (((((4 : Int32) * nI ls.length) + (s.2.1 39 i / nI (4 ^ ls.length))) * (64 : Int32)) + nI t) 1280 ∧ (∀ x30 : Int32, x30 = s.2.1 18 (((((4 : Int32) * nI ls.length) + (s.2.1 39 i / nI (4 ^ ls.length))) * (64 : Int32)) + nI t).toNatClampNeg → _)
      rw [e39, eix, nI_clamp (by omega), htb]
      refine ⟨vp_in_nI (by omega) (by omega), nm_e (nm_e ?_)⟩
      have hT' : ST (ls ++ [l]) (sI (sI s 16 (nI ls.length)) 16 (nI ls.length + 1)) := by
        refine ⟨e3.1, ?_, e3.2.2⟩
        show nI ls.length + 1 = _
        rw [nI_1, List.length_append]
        rfl
      have hg' : gh S (sI (sI s 16 (nI ls.length)) 16 (nI ls.length + 1)) := gh_I (gh_I e2 (by decide) _) (by decide) _
      have sn := gst_snoc ls l p t
      rw [hmod] at sn
      have go : ∀ (ext' : List Nat) (s' : RS), gh S s' → ST (ls ++ [l]) s' → VS (ls ++ [l]) (fun q => q < 4 ^ (ls.length + 1)) (rw ++ ext ++ ext') (s'.2.1 40) → RW (rw ++ ext ++ ext') (nI (rw ++ ext ++ ext').length) (s'.2.1 39) → ((gst ls p t).isSome = true → ¬ nx l (p / 4 ^ ls.length % 4) t = none) → (∀ q, gst (ls ++ [l]) p t = some q → q ∈ rw ++ ext ++ ext') → fX6_follows_119 N (nI ls.length) (nI (4 ^ ls.length)) (nI i) K Q w (nI (rw ++ ext ++ ext').length) (nI (t + 1)) s' := by
        intro ext' s' b1 b2 b3 b4 b5 b6
        rw [List.append_assoc] at b3 b4 b6 ⊢
        refine ih (nI (rw ++ (ext ++ ext')).length, s') ⟨ext ++ ext', rfl, b1, b2, b3, b4, fun t' ht' => ?_, fun t' ht' q e => ?_⟩
        · by_cases z : t' = t
          · subst z
            exact b5
          · exact e6 t' (by omega)
        · by_cases z : t' = t
          · subst z
            exact b6 q e
          · rw [← List.append_assoc]
            exact List.mem_append_left _ (e7 t' (by omega) q e)
      have go0 := fun b5 b6 => go [] (sI (sI s 16 (nI ls.length)) 16 (nI ls.length + 1)) hg' hT' (by rw [List.append_nil]; exact e4) (by rw [List.append_nil]; exact e5) b5 b6
      rw [List.append_nil] at go0
      cases hgs : gst ls p t with
      | none =>
        refine ⟨fun _ => nm_r (nI_1 t) (go0 (fun c => by rw [hgs] at c; cases c) (fun q e => ?_)), fun c => absurd (by decide) c⟩
        rw [sn, hgs] at e
        cases e
      | some to =>
        rw [hgs] at sn
        have hto : to < 2 ^ 31 := by
          cases hx : nx l (p / 4 ^ ls.length) t with
          | none =>
            have : (gst ls p t) = some to := hgs
            have hls4 : ∀ l' ∈ ls, ∀ s t z, s < 4 → nx l' s t = some z → t < 64 → z < 4 := by
              intro l' hl' s' t' z hs' hz' ht'
              obtain ⟨j, hj⟩ := List.getElem?_of_mem hl'
              exact (htab j l' (by rw [List.getElem?_append_left (List.getElem?_eq_some_iff.mp hj).1]; exact hj) s' hs' t' ht').2 z hz'
            have gl : ∀ (ls' : List Lw) (p' q' : Nat), (∀ l' ∈ ls', ∀ s z, s < 4 → nx l' s t = some z → z < 4) → gst ls' p' t = some q' → q' < 4 ^ ls'.length := by
              intro ls'
              induction ls' with
              | nil => intro p' q' _ e; cases e; exact Nat.one_pos
              | cons x xs ihx =>
                intro p' q' hall e
                have e : (match nx x (p' % 4) t, gst xs (p' / 4) t with | some s, some q => some (s + 4 * q) | _, _ => none) = some q' := e
                cases h1 : nx x (p' % 4) t with
                | none => rw [h1] at e; cases e
                | some a =>
                  cases h2 : gst xs (p' / 4) t with
                  | none => rw [h1, h2] at e; cases e
                  | some b =>
                    rw [h1, h2] at e
                    cases e
                    have x1 := hall x (by simp) _ _ (Nat.mod_lt _ (by omega)) h1
                    have x2 := ihx (p' / 4) b (fun l' hl' => hall l' (List.mem_cons_of_mem _ hl')) h2
                    rw [List.length_cons, Nat.pow_succ]
                    omega
            have := gl ls p to (fun l' hl' s z hs hz => hls4 l' hl' s t z hs hz ht) hgs
            omega
          | some z =>
            rw [hx] at sn
            have := hb p t _ sn
            omega
        refine ⟨fun c => absurd c (nI_pos hto), fun _ => ?_⟩
        cases hx : nx l (p / 4 ^ ls.length) t with
        | none =>
          refine ⟨fun c => absurd c (by decide), fun _ => h0 ⟨p, hpR, t, ht, by rw [hgs]; rfl, by rw [hmod]; exact hx⟩ _ hg'⟩
        | some z =>
          rw [hx] at sn
          have hz := hz4 z hx
          have hq := hb p t _ sn
          refine ⟨fun _ => ?_, fun c => absurd (nI_pos' (by omega)) c⟩
          rw [pk_mul, nI_add]
          refine nm_e ⟨vp_in_nI (by omega) (by omega), ?_⟩
          show (¬ s.2.1 40 (nI (to + 4 ^ ls.length * z)).toNatClampNeg = 0 → _) ∧ (s.2.1 40 (nI (to + 4 ^ ls.length * z)).toNatClampNeg = 0 → _)
          rw [nI_clamp (by omega)]
          refine ⟨fun c => nm_r (nI_1 t) (go0 (fun _ => by rw [hmod, hx]; intro c; cases c) (fun q e => ?_)), fun c => ⟨vp_in_nI (by omega) (by omega), nm_e ?_⟩⟩
          · rw [sn] at e
            cases e
            exact (e4.2.2.1 _ hq).mp c
          · have hl1 : (rw ++ ext).length < 1024 := nd_miss e4.1 (fun q hq => Nat.lt_of_lt_of_le (e4.2.1 q hq).1 hX) (show to + 4 ^ ls.length * z < 1024 by omega) (fun c2 => (e4.2.2.1 _ hq).mpr c2 c)
            refine ⟨vp_in_nI hl1 (by omega), nm_e (nm_r (nI_1 _) (nm_r (nI_1 t) ?_))⟩
            have fin := go [to + 4 ^ ls.length * z] (sA (sA (sI (sI s 16 (nI ls.length)) 16 (nI ls.length + 1)) 40 (upd (s.2.1 40) (to + 4 ^ ls.length * z) 1)) 39 (upd (s.2.1 39) (rw ++ ext).length (nI (to + 4 ^ ls.length * z)))) (gh_A (gh_A hg' (by decide) _) (by decide) _) hT' (VS_add e4 hq (RC_s hpR ht sn) c) ?_ (fun _ => by rw [hmod, hx]; intro c; cases c) (fun q e => by rw [sn] at e; cases e; simp)
            · rw [List.length_append (as := rw ++ ext), List.length_singleton] at fin
              rw [nI_clamp (by omega)]
              exact fin
            · have := RW_add (to + 4 ^ ls.length * z) e5
              refine ⟨rfl, this.2⟩
  have main : ∀ (f i : Nat) (s : RS) (rw : List Nat), gh S s → ST (ls ++ [l]) s → VS (ls ++ [l]) (fun q => q < 4 ^ (ls.length + 1)) rw (s.2.1 40) → RW rw (nI rw.length) (s.2.1 39) → PR (ls ++ [l]) (BA ls l) rw i → 1025 - i < f → fX6_follows_109 N (nI ls.length) (nI (4 ^ ls.length)) (fun S48 => Q 1 S48) Q f (nI rw.length) (nI i) s := by
    intro f
    induction f with
    | zero => intro i s rw _ _ _ _ _ hf; omega
    | succ f ih =>
      intro i s rw a1 a2 a3 a4 a5 hf
      have hlen : rw.length ≤ 1024 := nd_len a3.1 (fun q hq => Nat.lt_of_lt_of_le (a3.2.1 q hq).1 hX)
      by_cases z : i = rw.length
      · subst z
        exact lp_end rfl (h1 (PR_end a5 a3) s a1)
      · have hi : i < rw.length := by have := a5.1; omega
        obtain ⟨p, hp⟩ : ∃ p, rw[i]? = some p := ⟨rw[i], List.getElem?_eq_getElem hi⟩
        exact lp_in rfl (by omega) hi (inner i p rw s _ hp a1 a2 a3 a4 (fun ext s' b1 b2 b3 b4 b5 b6 => nm_r (nI_1 i) (ih (i + 1) s' (rw ++ ext) b1 b2 b3 b4 (PR_s ext a5 hp b5 b6) (by omega))))
  exact main N 0 S1 [0] hg hT hV hR ⟨by simp, fun j hj => absurd hj (by omega)⟩ (by omega)
theorem e_follows6 {n set w : Nat} {ad : Nat → Nat} {cnt : Int32} {byt ow wo ea re gu le : Nat → Int32} {Q : Int32 → RS → Prop} (hN : 1100 ≤ N) (hW : IW n ad cnt lw lp pf (S.1 13) (S.2.1 3) (S.2.1 4) (S.2.2.2 5) (S.2.2.2 6) byt ow wo ea re gu le) (h0 : 0 < set) (hs : set < 2 ^ n) (h4 : (mem set n).length ≤ 4) (hw : w < n) (hb : set.testBit w = false) (h1 : (¬ ∃ p, RC (LL S set n ++ [lawL (S.2.1 3) (S.2.1 4) (S.2.2.2 5) (S.2.2.2 6) w]) p ∧ BA (LL S set n) (lawL (S.2.1 3) (S.2.1 4) (S.2.2.2 5) (S.2.2.2 6) w) p) → ∀ S', gh S S' → Q 1 S') (h2 : (∃ p, RC (LL S set n ++ [lawL (S.2.1 3) (S.2.1 4) (S.2.2.2 5) (S.2.2.2 6) w]) p ∧ BA (LL S set n) (lawL (S.2.1 3) (S.2.1 4) (S.2.2.2 5) (S.2.2.2 6) w) p) → ∀ S', gh S S' → Q 0 S') : fX6_follows N S (nI w) (nI set) Q := by
  have hn := hW.1
  have hp20 := p20 hn
  have el : (LL S set n).length = (mem set n).length := List.length_map ..
  unfold fX6_follows
  refine e_isWant_yes hW.2.2.1 hn hw ⟨fun c => absurd c (by decide), fun _ => ?_⟩
  refine e_isSet6_yes (lim := 4) (by omega) hW.2.2.1 hn (by omega) h0 hs h4 ⟨fun c => absurd c (by decide), fun _ => ?_⟩
  rw [sshr_bit (by omega), bt_nI (by omega), hb]
  refine ⟨fun _ => ?_, fun c => absurd c (by decide)⟩
  refine e_takeSet (by omega) hW.2.2.1 hn (by omega) (fun S6 g6 k6 m6 => ⟨vp_in_nI (by omega) (by omega), ?_⟩)
  unfold fX6_add
  rw [nI_clamp (by omega)]
  refine ⟨by rw [k6]; exact vp_in_nI (by omega) (by omega), nm_e ⟨?_, nm_e (nm_e ?_)⟩⟩
  · show vp_in (S6.1 16) 5
    rw [k6]
    exact vp_in_nI (by omega) (by omega)
  · generalize hl : lawL (S.2.1 3) (S.2.1 4) (S.2.2.2 5) (S.2.2.2 6) w = l at h1 h2
    have hM : MB (LL S set n ++ [l]) (sI (sA (sA S6 14 (upd (S6.2.1 14) (S6.1 16).toNatClampNeg (nI w))) 15 (upd (S6.2.1 15) (S6.1 16).toNatClampNeg (S6.2.1 4 w))) 16 (S6.1 16 + 1)) := by
      have e : LL S set n ++ [l] = (mem set n ++ [w]).map (lawL (S.2.1 3) (S.2.1 4) (S.2.2.2 5) (S.2.2.2 6)) := by
        rw [List.map_append, ← hl]
        rfl
      rw [e]
      refine MB_ws hW (g6.2.1 3 (by decide) (by decide) (by decide) (by decide) (by decide)) g6.2.2 (fun x hx => ?_) (fun i x hx => ?_)
      · rw [List.mem_append, List.mem_singleton] at hx
        rcases hx with hx | hx
        · unfold mem at hx
          rw [List.mem_filter, List.mem_range] at hx
          exact hx.1
        · omega
      · show upd (S6.2.1 14) (S6.1 16).toNatClampNeg (nI w) i = nI x ∧ upd (S6.2.1 15) (S6.1 16).toNatClampNeg (S6.2.1 4 w) i = S.2.1 4 x
        rw [k6, nI_clamp (by omega)]
        by_cases z : i < (mem set n).length
        · rw [List.getElem?_append_left z] at hx
          rw [pk_un (by omega), pk_un (by omega)]
          exact m6 i x hx
        · rw [List.getElem?_append_right (by omega)] at hx
          have z2 : i = (mem set n).length := by
            have := (List.getElem?_eq_some_iff.mp hx).1
            rw [List.length_singleton] at this
            omega
          subst z2
          rw [Nat.sub_self] at hx
          cases hx
          rw [pk_us, pk_us, g6.2.1 4 (by decide) (by decide) (by decide) (by decide) (by decide)]
          exact ⟨rfl, rfl⟩
    have e1 : (LL S set n ++ [l]).length = (LL S set n).length + 1 := by rw [List.length_append]; rfl
    refine e_findSteps (by omega) (by rw [e1, el]; omega) ?_ hM (fun S9 f9 k9 t9 => ?_)
    · show S6.1 16 + 1 = _
      rw [k6, nI_1, e1, el]
    · have hX : 4 ^ ((LL S set n).length + 1) ≤ 1024 := p4 (by omega)
      have g9 : gh S S9 := gh_t (gh_I (gh_A (gh_A (gh_of g6) (by decide) _) (by decide) _) (by decide) _) (gh_of f9.1)
      rw [e1] at k9
      refine nm_r (show S9.1 16 - 1 = nI (LL S set n).length by rw [t9.2.1, e1, ← nI_1]; exact Int32.add_sub_cancel _ _) (nm_r (show S9.1 17 / 4 = nI (4 ^ (LL S set n).length) by rw [k9, show (4 : Int32) = nI 4 from rfl, pk_div (by omega) (by omega) (by omega), Nat.pow_succ, Nat.mul_div_cancel _ (by omega)]) ?_)
      have key := loop_i (σ := RS) (fun f i s => fX6_follows_66 N (nI (LL S set n).length) (nI (4 ^ (LL S set n).length)) (fun S16 => (vp_in 0 1024 ∧ (∀ S18 : RS, S18 = sA S16 39 (upd (S16.2.1 39) (0 : Int32).toNatClampNeg 0) → (vp_in 0 1024 ∧ (∀ S20 : RS, S20 = sA S18 40 (upd (S18.2.1 40) (0 : Int32).toNatClampNeg (vp_nar .boolean 1)) → (fX6_follows_109 N (nI (LL S set n).length) (nI (4 ^ (LL S set n).length)) (fun S48 => Q 1 S48) Q N 1 0 S20)))))) Q f (nI i) s) (fun i s => gh S s ∧ ST (LL S set n ++ [l]) s ∧ s.1 17 = nI (4 ^ ((LL S set n).length + 1)) ∧ ∀ q, q < i → s.2.1 40 q = 0) (4 ^ ((LL S set n).length + 1)) ?_ ?_ N 0 S9 (Nat.zero_le _) (by omega) ⟨g9, t9, k9, fun q hq => absurd hq (by omega)⟩
      · exact key
      · rintro f s ⟨a1, a2, a3, a4⟩
        refine lp_end a3 ⟨vp_in_nI (n := 0) (by omega) (by omega), nm_e ⟨vp_in_nI (n := 0) (by omega) (by omega), nm_e ?_⟩⟩
        refine e_reach6 hN (by omega) (fun p t q e => ?_) (gh_A (gh_A a1 (by decide) _) (by decide) _) a2 ?_ ?_ h1 h2
        · have := gst_lt (MB_lt hM) e
          rw [e1] at this
          exact this
        · show VS (LL S set n ++ [l]) (fun q => q < 4 ^ ((LL S set n).length + 1)) [0] (upd (s.2.1 40) 0 1)
          refine ⟨by simp, fun q hq => ?_, fun q hq => ?_, by simp⟩
          · rw [List.mem_singleton] at hq
            subst hq
            exact ⟨Nat.pow_pos (by omega), RC_0 _⟩
          · rw [List.mem_singleton]
            by_cases z : q = 0
            · subst z
              rw [pk_us]
              exact ⟨fun _ => rfl, fun _ => by decide⟩
            · rw [pk_un z, a4 q hq]
              exact ⟨fun c => absurd rfl c, fun c => absurd c z⟩
        · show RW [0] 1 (upd (s.2.1 39) 0 0)
          refine ⟨rfl, fun j q hq => ?_⟩
          cases j with
          | zero =>
            cases hq
            rw [pk_us]
            rfl
          | succ j => simp at hq
      · rintro f i s hi ⟨a1, a2, a3, a4⟩ ih
        refine lp_in a3 (by omega) hi ⟨vp_in_nI (by omega) (by omega), ?_⟩
        rw [nI_clamp (by omega)]
        refine nm_e (nm_r (nI_1 i) (ih _ ⟨gh_A a1 (by decide) _, a2, a3, fun q hq => ?_⟩))
        show upd (s.2.1 40) i 0 q = 0
        by_cases z : q = i
        · subst z
          exact pk_us
        · rw [pk_un z]
          exact a4 q (by omega)
theorem step_16 (hN : 1100 ≤ N) (h : Inv sb lw st sp sd ss sy si lp pf S) (v u : Int32) : cL_16 N sb lw st sp sd ss sy si lp pf S v u Inv := by
  have keep := h
  obtain ⟨n, ad, hW, hT, hD, hR, hP, hPl, hTr⟩ := h
  obtain ⟨hn, ec, ew, hl, inj, hz⟩ := id hW
  unfold cL_16 fX5_follows
  by_cases hv : ∃ j, j < n ∧ v = nI j
  · obtain ⟨w, hw, rfl⟩ := hv
    obtain ⟨a1, a2, ⟨b1, b2, b3, b4, -⟩, ⟨⟨a, ha, ea⟩, ⟨m, hm, em⟩, -⟩⟩ := hl w hw
    refine e_lawOf_yes ec hn hw ?_
    rw [a1]
    refine ⟨fun c => (by cases c), fun q e => ?_⟩
    cases e
    by_cases hu : isS n 4 u
    · obtain ⟨set, h0, hs, hl4, rfl⟩ := hu
      refine e_isSet5_yes (lim := 4) ec hn (by omega) h0 hs hl4 ⟨fun c => absurd c (by decide), fun _ => e_isIn (by omega) ?_⟩
      rw [bt_nI (by omega)]
      refine sel (fun cb => ?_) (fun cb => ?_)
      · unfold fX6_follows
        refine e_isWant_yes ew hn hw ⟨fun c => absurd c (by decide), fun _ => ?_⟩
        refine e_isSet6_yes (lim := 4) (by omega) ew hn (by omega) h0 hs hl4 ⟨fun c => absurd c (by decide), fun _ => ?_⟩
        rw [sshr_bit (by omega), bt_nI (by omega), cb]
        exact ⟨fun c => absurd rfl c, fun _ => ⟨rfl, keep⟩⟩
      · refine e_lay3 hN hW (by omega) (fun G op hL => ⟨a2, a2, ?_⟩)
        rw [b2, em]
        have elaw : lawL (S.2.1 3) (S.2.1 4) (S.2.2.2 5) (S.2.2.2 6) w = (a, m, tb ((pf (ad w)).2.2.1 2), tb ((pf (ad w)).2.2.1 3)) := by
          unfold lawL
          rw [ea, em, nI_clamp (by omega), nI_clamp (by omega), b3, b4]
        refine e_enter hN hL (by rw [List.length_map]; omega) ha hm (by rw [b1, ea]) (fun G' op' hL' => ?_)
        rw [hv_0, ← elaw] at hL'
        have ehs : (LL S set n).map hi1 ++ [if a = 0 then 0 else if (0 : Int32) = 0 then m else 3] = (LL S set n ++ [lawL (S.2.1 3) (S.2.1 4) (S.2.2.2 5) (S.2.2.2 6) w]).map hi1 := by
          rw [List.map_append, elaw]
          rfl
        rw [ehs] at hL'
        have hf := law_hi (set := set) hW 0
        rw [hv_0] at hf
        have hC := CL_of (ls := LL S set n ++ [lawL (S.2.1 3) (S.2.1 4) (S.2.2.2 5) (S.2.2.2 6) w]) (f := hi1) (by rw [List.length_append, List.length_map]; show _ + 1 ≤ 5; omega) (fun l hl' => by
          rw [List.mem_append, List.mem_singleton] at hl'
          rcases hl' with hl' | hl'
          · exact hf l hl'
          · rw [hl', elaw]
            refine ⟨Nat.le_refl _, ?_⟩
            show (if a = 0 then 0 else m) ≤ 3
            split <;> omega)
        refine e_lastMay hN hC hL' (fun hx G2 => ⟨fun _ => ?_, fun c => absurd c (by decide)⟩) (fun hx G2 => ⟨fun c => absurd rfl c, fun _ => ?_⟩)
        · exact e_bit (b := false) (e_follows6 hN hW h0 hs hl4 hw cb (fun c => absurd hx c) (fun _ S1 g1 => ⟨rfl, Inv_gh keep g1⟩))
        · exact e_bit (b := true) (e_follows6 hN hW h0 hs hl4 hw cb (fun _ S1 g1 => ⟨rfl, Inv_gh keep g1⟩) (fun c => absurd c hx))
    · refine e_isSet5_no (lim := 4) ec hn (by omega) hu ⟨fun _ => ?_, fun c => absurd rfl c⟩
      unfold fX6_follows
      refine e_isWant_yes ew hn hw ⟨fun c => absurd c (by decide), fun _ => ?_⟩
      exact e_isSet6_no (lim := 4) (by omega) ew hn (by omega) hu ⟨fun _ => ⟨rfl, keep⟩, fun c => absurd rfl c⟩
  · refine e_lawOf_no ec hn hv ⟨fun _ => ?_, fun q e => by cases e⟩
    unfold fX6_follows
    exact e_isWant_no ew hn hv ⟨fun _ => ⟨rfl, keep⟩, fun c => absurd rfl c⟩
end FOLLOWS
