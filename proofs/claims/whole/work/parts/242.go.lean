/-! peace: the reference -/
def KW (f : Nat → Lw) (pw : Nat → Nat → Nat) (w : Nat) (S : RS) : Prop := ∃ a m x y, a ≤ 2 ∧ m ≤ 3 ∧ x ≤ 99 ∧ y ≤ 99 ∧ S.2.1 3 w = nI a ∧ S.2.1 4 w = nI m ∧ f w = (a, m, tb (S.2.2.2 5 w), tb (S.2.2.2 6 w)) ∧ S.2.1 8 w = nI x ∧ S.2.1 9 w = nI y ∧ ∀ e, pw w e = if e = 4 then x else y * e
def RX (f : Nat → Lw) (pw : Nat → Nat → Nat) (W : List Nat) (S : RS) : Prop := S.1 42 = nI W.length ∧ W.length ≤ 4 ∧ ∀ j w, W[j]? = some w → S.2.1 41 j = nI w ∧ w < 20 ∧ KW f pw w S
/-- what the search may change -/
def pfr (S s : RS) : Prop := (∀ j, ¬ j ∈ [16, 17, 38, 27, 29] → s.1 j = S.1 j) ∧ (∀ j, ¬ j ∈ [14, 15, 18, 19, 20, 24, 25, 28] → s.2.1 j = S.2.1 j) ∧ s.2.2.2 = S.2.2.2
theorem pfr_0 (S : RS) : pfr S S := ⟨fun _ _ => rfl, fun _ _ => rfl, rfl⟩
theorem pfr_t {S S1 S2 : RS} (h : pfr S S1) (g : pfr S1 S2) : pfr S S2 := ⟨fun j hj => (g.1 j hj).trans (h.1 j hj), fun j hj => (g.2.1 j hj).trans (h.2.1 j hj), g.2.2.trans h.2.2⟩
theorem pfr_I {S S' : RS} (h : pfr S S') {k : Nat} (hk : k ∈ [16, 17, 38, 27, 29]) (x : Int32) : pfr S (sI S' k x) := ⟨fun j hj => by rw [← h.1 j hj]; exact up_ne (fun e => hj (by rw [e]; exact hk)), h.2.1, h.2.2⟩
theorem pfr_A {S S' : RS} (h : pfr S S') {k : Nat} (hk : k ∈ [14, 15, 18, 19, 20, 24, 25, 28]) (x : Nat → Int32) : pfr S (sA S' k x) := ⟨h.1, fun j hj => by rw [← h.2.1 j hj]; exact up_ne (fun e => hj (by rw [e]; exact hk)), h.2.2⟩
theorem RX_pfr {f : Nat → Lw} {pw : Nat → Nat → Nat} {W : List Nat} {S s : RS} (h : RX f pw W S) (g : pfr S s) : RX f pw W s := by
  obtain ⟨h1, h2, h3⟩ := h
  refine ⟨(g.1 42 (by decide)).trans h1, h2, fun j w hw => ?_⟩
  obtain ⟨a1, a2, a3⟩ := h3 j w hw
  refine ⟨by rw [g.2.1 41 (by decide)]; exact a1, a2, ?_⟩
  unfold KW
  rw [g.2.1 3 (by decide), g.2.1 4 (by decide), g.2.1 8 (by decide), g.2.1 9 (by decide), g.2.2]
  exact a3
/-- what is looked at in a leaf stays -/
def fo (S s : RS) : Prop := pfr S s ∧ s.1 27 = S.1 27 ∧ s.2.1 24 = S.2.1 24 ∧ s.2.1 25 = S.2.1 25
theorem fo_0 (S : RS) : fo S S := ⟨pfr_0 S, rfl, rfl, rfl⟩
theorem fo_gf {S S1 S2 : RS} (h : fo S S1) (g : gf S1 S2) : fo S S2 := by
  obtain ⟨h1, h2, h3, h4⟩ := h
  refine ⟨pfr_t h1 ⟨fun j hj => g.1 j (fun e => hj (by rw [e]; decide)) (fun e => hj (by rw [e]; decide)) (fun e => hj (by rw [e]; decide)), fun j hj => g.2.1 j (fun e => hj (by rw [e]; decide)) (fun e => hj (by rw [e]; decide)) (fun e => hj (by rw [e]; decide)) (fun e => hj (by rw [e]; decide)) (fun e => hj (by rw [e]; decide)), g.2.2⟩, (g.1 27 (by decide) (by decide) (by decide)).trans h2, (g.2.1 24 (by decide) (by decide) (by decide) (by decide) (by decide)).trans h3, (g.2.1 25 (by decide) (by decide) (by decide) (by decide) (by decide)).trans h4⟩
/-- the terms that failed -/
def FL (f : Nat → Lw) (W : List Nat) (s : RS) (nf : Nat) : Prop := s.1 29 = nI nf ∧ ∀ k, k < nf → ∃ gs, full f W gs ∧ ¬ Safe (lws f W gs) 0 ∧ ∀ j e, gs[j]? = some e → s.2.1 28 (5 * k + j) = nI e
def CS (o : Option (Nat × List Nat)) (s : RS) : Prop := (o = none → s.1 27 = -1) ∧ ∀ P c, o = some (P, c) → s.1 27 = nI P ∧ P ≤ 2000 ∧ TR c (s.2.1 25)
theorem MB_add {ls : List Lw} {s : RS} {w a m : Nat} (h : MB ls s) (hl : s.1 16 = nI ls.length) (h5 : ls.length < 5) (hw : w < 20) (ha : a ≤ 2) (hm : m ≤ 3) (e3 : s.2.1 3 w = nI a) : MB (ls ++ [(a, m, tb (s.2.2.2 5 w), tb (s.2.2.2 6 w))]) (sI (sA (sA s 14 (upd (s.2.1 14) (s.1 16).toNatClampNeg (nI w))) 15 (upd (s.2.1 15) (s.1 16).toNatClampNeg (nI m))) 16 (s.1 16 + 1)) := by
  intro i l hi
  by_cases z : i < ls.length
  · rw [List.getElem?_append_left z] at hi
    obtain ⟨w', a', m', b1, b2, b3, b4, b5, b6, b7⟩ := h i l hi
    refine ⟨w', a', m', b1, b2, b3, ?_, ?_, b6, b7⟩
    · show upd (s.2.1 14) (s.1 16).toNatClampNeg (nI w) i = nI w'
      rw [hl, nI_clamp (by omega), pk_un (by omega)]
      exact b4
    · show upd (s.2.1 15) (s.1 16).toNatClampNeg (nI m) i = nI m'
      rw [hl, nI_clamp (by omega), pk_un (by omega)]
      exact b5
  · rw [List.getElem?_append_right (by omega)] at hi
    have z2 : i = ls.length := by
      have := (List.getElem?_eq_some_iff.mp hi).1
      rw [List.length_singleton] at this
      omega
    subst z2
    rw [Nat.sub_self] at hi
    cases hi
    refine ⟨w, a, m, hw, ha, hm, ?_, ?_, e3, rfl⟩
    · show upd (s.2.1 14) (s.1 16).toNatClampNeg (nI w) ls.length = nI w
      rw [hl, nI_clamp (by omega), pk_us]
    · show upd (s.2.1 15) (s.1 16).toNatClampNeg (nI m) ls.length = nI m
      rw [hl, nI_clamp (by omega), pk_us]
theorem lee_of : ∀ (es gs : List Nat), gs.length ≤ es.length → (∀ (j e g : Nat), es[j]? = some e → gs[j]? = some g → e ≤ g) → lee es gs
  | es, [], _, _ => lee_nil es
  | [], _ :: _, h, _ => absurd h (by simp)
  | e :: es, g :: gs, h, hh => ⟨hh 0 e g rfl rfl, lee_of es gs (by simpa using h) (fun j e' g' a b => hh (j + 1) e' g' (by simpa using a) (by simpa using b))⟩
section GO
variable {N : Nat} {f : Nat → Lw} {pw : Nat → Nat → Nat} {W : List Nat}
theorem RX_3 {S : RS} (hX : RX f pw W S) : ∀ w, w ∈ W → (f w).2.1 ≤ 3 := by
  intro w hw
  obtain ⟨j, hj⟩ := List.getElem?_of_mem hw
  obtain ⟨-, -, a, m, x, y, -, hm, -, -, -, -, ef, -⟩ := hX.2.2 j w hj
  rw [ef]
  exact hm
theorem e_mayBe {w e : Nat} {S : RS} {Q : Int32 → Prop} (hw : w < 20) (hL : KW f pw w S) (he : e ≤ 4) (h1 : al (f w) e → Q 1) (h0 : ¬ al (f w) e → Q 0) : fX6_mayBe N S (nI w) (nI e) Q := by
  obtain ⟨a, m, x, y, ha2, hm, hx, hy, e0, e1, ef, -, -, -⟩ := hL
  unfold fX6_mayBe fX6_mayBe_31
  unfold al at h1 h0
  rw [ef] at h1 h0
  simp only at h1 h0
  rw [nI_clamp (by omega), e0, e1]
  refine ⟨fun c => h1 (Or.inl ((nI_eq (b := 0) (by omega) (by omega)).mp c)), fun c0 => ⟨fun c => h1 (Or.inr (Or.inl ((nI_eq (b := 4) (by omega) (by omega)).mp c))), fun c4 => ⟨vp_in_nI (by omega) (by omega), ?_⟩⟩⟩
  have z0 : ¬ e = 0 := fun z => c0 (by rw [z]; rfl)
  have z4 : ¬ e = 4 := fun z => c4 (by rw [z]; rfl)
  refine ⟨fun c1 => ⟨vp_in_nI (by omega) (by omega), ?_⟩, fun c1 => ⟨vp_in_nI (by omega) (by omega), ?_⟩⟩
  · have z1 : ¬ a = 1 := fun z => c1 (by rw [z]; rfl)
    refine ⟨fun c2 => h0 ?_, fun c2 => ⟨vp_in_nI (by omega) (by omega), ?_⟩⟩
    · have z2 : ¬ a = 2 := fun z => c2 (by rw [z]; rfl)
      omega
    · have z2 : a = 2 := (nI_eq (b := 2) (by omega) (by omega)).mp c2
      by_cases le : e ≤ m
      · rw [pk_sub le]
        exact ⟨fun c => absurd c (nI_pos (by omega)), fun _ => h1 (by omega)⟩
      · have neg : nI m - nI e < 0 := by
          have : ∀ m, m < 4 → ∀ e, e < 5 → m < e → nI m - nI e < 0 := by decide
          exact this m (by omega) e (by omega) (by omega)
        exact ⟨fun _ => h0 (by omega), fun c => absurd neg c⟩
  · have z1 : a = 1 := (nI_eq (b := 1) (by omega) (by omega)).mp c1
    rw [nI_add]
    by_cases le : m + e ≤ 3
    · exact ⟨fun _ => h1 (by omega), fun c => absurd (show nI (m + e) ≤ nI 3 from nI_le le (by omega)) c⟩
    · refine ⟨fun c => absurd (show nI (m + e) ≤ nI 3 from c) (nI_ge (by omega) (by omega)), fun _ => ⟨vp_in_nI (by omega) (by omega), fun _ => h0 (by omega), fun c => ?_⟩⟩
      have := (nI_eq (b := 2) (by omega) (by omega)).mp c
      omega
theorem e_isObeyed {es : List Nat} {nf : Nat} {S : RS} {Q : Int32 → RS → Prop} (hN : 1100 ≤ N) (hX : RX f pw W S) (hF : full f W es) (hT : TR es (S.2.1 24)) (hL : FL f W S nf) (hnf : nf < 625) (h1 : Safe (lws f W es) 0 → ∀ s, fo S s → FL f W s nf → Q 1 s) (h0 : ¬ Safe (lws f W es) 0 → ∀ s nf', fo S s → FL f W s nf' → nf' ≤ nf + 1 → Q 0 s) : fX6_isObeyed N S Q := by
  obtain ⟨hlen, hok⟩ := id hF
  obtain ⟨h42, hk4, hW⟩ := id hX
  have h3 := RX_3 hX
  obtain ⟨h29, hfl⟩ := id hL
  have hdg := okk_dig hok
  unfold fX6_isObeyed
  have rest : (∀ S13 : RS, S13 = sI S 16 0 → (fX6_isObeyed_76 N (fun S28 => (fX6_findSafe N S28 (fun  S29 => (vp_in 0 1024 ∧ ((¬ (S29.2.1 19 (0 : Int32).toNatClampNeg) = 0 → (vp_in 0 1024 ∧ (narrow .boolean (.int (S29.2.1 19 (0 : Int32).toNatClampNeg)) = .int (S29.2.1 19 (0 : Int32).toNatClampNeg) ∧ Q (S29.2.1 19 (0 : Int32).toNatClampNeg) S29))) ∧ ((S29.2.1 19 (0 : Int32).toNatClampNeg) = 0 → (fX6_isObeyed_166 N (fun S38 => (∀ S39 : RS, S39 = sI S38 29 ((S38.1 29) + (1 : Int32)) → (vp_in 0 1024 ∧ (narrow .boolean (.int (S39.2.1 19 (0 : Int32).toNatClampNeg)) = .int (S39.2.1 19 (0 : Int32).toNatClampNeg) ∧ Q (S39.2.1 19 (0 : Int32).toNatClampNeg) S39)))) Q N 0 S29))))))) Q N 0 S13)) := by
    refine nm_e ?_
    have key := loop_i (σ := RS) (fun w i s => fX6_isObeyed_76 N (fun S28 => (fX6_findSafe N S28 (fun  S29 => (vp_in 0 1024 ∧ ((¬ (S29.2.1 19 (0 : Int32).toNatClampNeg) = 0 → (vp_in 0 1024 ∧ (narrow .boolean (.int (S29.2.1 19 (0 : Int32).toNatClampNeg)) = .int (S29.2.1 19 (0 : Int32).toNatClampNeg) ∧ Q (S29.2.1 19 (0 : Int32).toNatClampNeg) S29))) ∧ ((S29.2.1 19 (0 : Int32).toNatClampNeg) = 0 → (fX6_isObeyed_166 N (fun S38 => (∀ S39 : RS, S39 = sI S38 29 ((S38.1 29) + (1 : Int32)) → (vp_in 0 1024 ∧ (narrow .boolean (.int (S39.2.1 19 (0 : Int32).toNatClampNeg)) = .int (S39.2.1 19 (0 : Int32).toNatClampNeg) ∧ Q (S39.2.1 19 (0 : Int32).toNatClampNeg) S39)))) Q N 0 S29))))))) Q w (nI i) s) (fun i s => fo S s ∧ s.1 29 = S.1 29 ∧ s.2.1 28 = S.2.1 28 ∧ s.1 16 = nI (lws f W (es.take i)).length ∧ MB (lws f W (es.take i)) s) W.length ?_ ?_ N 0 (sI S 16 0) (by omega) (by omega) ⟨⟨pfr_I (pfr_0 S) (by decide) 0, rfl, rfl, rfl⟩, rfl, rfl, by rw [List.take_zero, lws_nil]; rfl, by rw [List.take_zero, lws_nil]; intro i l hl; simp at hl⟩
    · exact key
    · rintro w s ⟨a1, a2, a3, a4, a5⟩
      rw [← hlen, List.take_length] at a4 a5
      have hll := lws_len (f := f) W es
      refine lp_end ((a1.1.1 42 (by decide)).trans h42) (e_findSafeB hN (by omega) a4 a5 (fun S29 f29 _ _ z29 => ⟨vp_in_nI (n := 0) (by omega) (by omega), ?_⟩))
      show (¬ S29.2.1 19 0 = 0 → vp_in 0 1024 ∧ narrow .boolean (.int (S29.2.1 19 0)) = .int (S29.2.1 19 0) ∧ Q (S29.2.1 19 0) S29) ∧ (S29.2.1 19 0 = 0 → _)
      obtain ⟨y1, y2⟩ := z29 0 (Nat.pow_pos (by omega))
      have g1 : fo S S29 := fo_gf a1 f29.1
      have g29 : S29.1 29 = nI nf := by rw [f29.1.1 29 (by decide) (by decide) (by decide), a2, h29]
      have g28 : S29.2.1 28 = S.2.1 28 := by rw [f29.1.2.1 28 (by decide) (by decide) (by decide) (by decide) (by decide), a3]
      refine ⟨fun c => ?_, fun c => ?_⟩
      · rw [y2.resolve_left c]
        exact ⟨vp_in_nI (n := 0) (by omega) (by omega), isBool_1, h1 (y1.mp c) S29 g1 ⟨g29, fun k hk => by rw [g28]; exact hfl k hk⟩⟩
      · have hns : ¬ Safe (lws f W es) 0 := fun z => y1.mpr z c
        have key2 := loop_i (σ := RS) (fun w i s => fX6_isObeyed_166 N (fun S38 => (∀ S39 : RS, S39 = sI S38 29 ((S38.1 29) + (1 : Int32)) → (vp_in 0 1024 ∧ (narrow .boolean (.int (S39.2.1 19 (0 : Int32).toNatClampNeg)) = .int (S39.2.1 19 (0 : Int32).toNatClampNeg) ∧ Q (S39.2.1 19 (0 : Int32).toNatClampNeg) S39)))) Q w (nI i) s) (fun i s => fo S s ∧ s.1 29 = nI nf ∧ s.2.1 19 0 = 0 ∧ (∀ x, x < 5 * nf → s.2.1 28 x = S.2.1 28 x) ∧ ∀ j e, j < i → es[j]? = some e → s.2.1 28 (5 * nf + j) = nI e) W.length ?_ ?_ N 0 S29 (by omega) (by omega) ⟨g1, g29, c, fun x _ => by rw [g28], fun j e hj => absurd hj (by omega)⟩
        · exact key2
        · rintro w s ⟨b1, b2, b3, b4, b5⟩
          refine lp_end ((b1.1.1 42 (by decide)).trans h42) (nm_e ⟨vp_in_nI (n := 0) (by omega) (by omega), ?_⟩)
          show narrow .boolean (.int (s.2.1 19 0)) = .int (s.2.1 19 0) ∧ Q (s.2.1 19 0) (sI s 29 (s.1 29 + 1))
          rw [b3, b2, nI_1]
          refine ⟨isBool_0, h0 hns _ (nf + 1) ⟨pfr_I b1.1 (by decide) _, b1.2⟩ ⟨rfl, fun k hk => ?_⟩ (Nat.le_refl _)⟩
          by_cases z : k = nf
          · subst z
            exact ⟨es, hF, hns, fun j e he => b5 j e (by have := (List.getElem?_eq_some_iff.mp he).1; omega) he⟩
          · obtain ⟨gs, c1, c2, c3⟩ := hfl k (by omega)
            refine ⟨gs, c1, c2, fun j e he => ?_⟩
            have hj := (List.getElem?_eq_some_iff.mp he).1
            have := c1.1
            show s.2.1 28 (5 * k + j) = nI e
            rw [b4 _ (by omega)]
            exact c3 j e he
        · rintro w i s hi ⟨b1, b2, b3, b4, b5⟩ ih
          obtain ⟨e, he⟩ : ∃ e, es[i]? = some e := ⟨es[i]'(by omega), List.getElem?_eq_getElem (by omega)⟩
          have e24 : s.2.1 24 i = nI e := by rw [b1.2.2.1]; exact hT i e he
          refine lp_in ((b1.1.1 42 (by decide)).trans h42) (by omega) hi ⟨vp_in_nI (by omega) (by omega), ?_⟩
          have eix : (((5 : Int32) * (s.1 29)) + nI i) = nI (5 * nf + i) := by
            rw [b2, show (5 : Int32) = nI 5 from rfl, pk_mul, nI_add]
          rw [eix, nI_clamp (by omega), nI_clamp (by omega), e24]
          refine ⟨vp_in_nI (by omega) (by omega), nm_e (nm_r (nI_1 i) (ih _ ⟨⟨pfr_A b1.1 (by decide) _, b1.2⟩, b2, b3, fun x hx => ?_, fun j e' hj he' => ?_⟩))⟩
          · show upd (s.2.1 28) (5 * nf + i) (nI e) x = _
            rw [pk_un (by omega)]
            exact b4 x hx
          · show upd (s.2.1 28) (5 * nf + i) (nI e) (5 * nf + j) = _
            by_cases z : j = i
            · subst z
              rw [he] at he'
              cases he'
              exact pk_us
            · rw [pk_un (by omega)]
              exact b5 j e' (by omega) he'
    · rintro w i s hi ⟨a1, a2, a3, a4, a5⟩ ih
      have hsX := RX_pfr hX a1.1
      obtain ⟨e, he⟩ : ∃ e, es[i]? = some e := ⟨es[i]'(by omega), List.getElem?_eq_getElem (by omega)⟩
      obtain ⟨x, hx⟩ : ∃ x, W[i]? = some x := ⟨W[i], List.getElem?_eq_getElem hi⟩
      obtain ⟨e41, hx20, a, m, p1, p2, ha2, hm, -, -, e3, e4, ef, -, -, -⟩ := hsX.2.2 i x hx
      have elen : (es.take i).length = i := by rw [List.length_take]; omega
      have etk : es.take (i + 1) = es.take i ++ [e] := by rw [List.take_succ, he]; rfl
      have hoj : okk f W (es.take i ++ [e]) := by
        rw [← etk]
        refine okk_pre (rest := es.drop (i + 1)) ?_
        rw [List.take_append_drop]
        exact hok
      have hal : al (f x) e := okk_at (rest := []) (by rw [elen]; exact hx) hoj
      have hsn := lws_snoc (f := f) (e := e) (W := W) (es := es.take i) (by rw [elen]; exact hx)
      have hll := lws_len (f := f) W (es.take i)
      have le4 := al_le hal
      refine lp_in ((a1.1.1 42 (by decide)).trans h42) (by omega) hi ⟨vp_in_nI (by omega) (by omega), ?_⟩
      rw [nI_clamp (by omega), e41]
      refine nm_e ⟨vp_in_nI (by omega) (by omega), ?_⟩
      rw [a1.2.2.1, hT i e he]
      refine ⟨fun c => nm_r (nI_1 i) (ih s ⟨a1, a2, a3, ?_, ?_⟩), fun c => ⟨vp_in_nI (by omega) (by omega), ?_⟩⟩
      · have z4 : e = 4 := (nI_eq (b := 4) (by omega) (by omega)).mp c
        rw [etk, hsn, if_pos z4, List.append_nil]
        exact a4
      · have z4 : e = 4 := (nI_eq (b := 4) (by omega) (by omega)).mp c
        rw [etk, hsn, if_pos z4, List.append_nil]
        exact a5
      · have z4 : ¬ e = 4 := fun z => c (by rw [z]; rfl)
        rw [nI_clamp (by omega), e3, e4]
        have add : ∀ m', m' ≤ 3 → ew (f x) e = (a, m', tb (s.2.2.2 5 x), tb (s.2.2.2 6 x)) → fX6_isObeyed_142 N s (nI i) (nI x) (nI m') (fun v1 S => fX6_isObeyed_76 N (fun S28 => (fX6_findSafe N S28 (fun  S29 => (vp_in 0 1024 ∧ ((¬ (S29.2.1 19 (0 : Int32).toNatClampNeg) = 0 → (vp_in 0 1024 ∧ (narrow .boolean (.int (S29.2.1 19 (0 : Int32).toNatClampNeg)) = .int (S29.2.1 19 (0 : Int32).toNatClampNeg) ∧ Q (S29.2.1 19 (0 : Int32).toNatClampNeg) S29))) ∧ ((S29.2.1 19 (0 : Int32).toNatClampNeg) = 0 → (fX6_isObeyed_166 N (fun S38 => (∀ S39 : RS, S39 = sI S38 29 ((S38.1 29) + (1 : Int32)) → (vp_in 0 1024 ∧ (narrow .boolean (.int (S39.2.1 19 (0 : Int32).toNatClampNeg)) = .int (S39.2.1 19 (0 : Int32).toNatClampNeg) ∧ Q (S39.2.1 19 (0 : Int32).toNatClampNeg) S39)))) Q N 0 S29))))))) Q w v1 S) (fun S28 => (fX6_findSafe N S28 (fun  S29 => (vp_in 0 1024 ∧ ((¬ (S29.2.1 19 (0 : Int32).toNatClampNeg) = 0 → (vp_in 0 1024 ∧ (narrow .boolean (.int (S29.2.1 19 (0 : Int32).toNatClampNeg)) = .int (S29.2.1 19 (0 : Int32).toNatClampNeg) ∧ Q (S29.2.1 19 (0 : Int32).toNatClampNeg) S29))) ∧ ((S29.2.1 19 (0 : Int32).toNatClampNeg) = 0 → (fX6_isObeyed_166 N (fun S38 => (∀ S39 : RS, S39 = sI S38 29 ((S38.1 29) + (1 : Int32)) → (vp_in 0 1024 ∧ (narrow .boolean (.int (S39.2.1 19 (0 : Int32).toNatClampNeg)) = .int (S39.2.1 19 (0 : Int32).toNatClampNeg) ∧ Q (S39.2.1 19 (0 : Int32).toNatClampNeg) S39)))) Q N 0 S29))))))) Q := by
          intro m' hm' eew
          unfold fX6_isObeyed_142 fX6_add
          have hv : vp_in (s.1 16) 5 := by rw [a4]; exact vp_in_nI (by omega) (by omega)
          refine ⟨hv, nm_e ⟨hv, nm_e (nm_e (nm_r (nI_1 i) (ih _ ⟨⟨pfr_I (pfr_A (pfr_A a1.1 (by decide) _) (by decide) _) (by decide) _, a1.2⟩, a2, a3, ?_, ?_⟩)))⟩⟩
          · show s.1 16 + 1 = _
            rw [a4, nI_1, etk, hsn, if_neg z4, List.length_append]
            rfl
          · rw [etk, hsn, if_neg z4, eew]
            exact MB_add a5 a4 (by omega) hx20 ha2 hm' e3
        refine ⟨fun c1 => ⟨vp_in_nI (by omega) (by omega), vp_in_nI (by omega) (by omega), ?_⟩, fun c1 => ⟨vp_in_nI (by omega) (by omega), vp_in_nI (by omega) (by omega), ?_⟩⟩
        · have z1 : ¬ a = 1 := fun z => c1 (by rw [z]; rfl)
          have hem : e ≤ m := by
            unfold al at hal
            rw [ef] at hal
            simp only at hal
            omega
          rw [pk_sub hem]
          refine add (m - e) (by omega) ?_
          unfold ew
          rw [ef]
          simp only
          rw [if_neg z1]
        · have z1 : a = 1 := (nI_eq (b := 1) (by omega) (by omega)).mp c1
          have hem : m + e ≤ 3 := by
            unfold al at hal
            rw [ef] at hal
            simp only at hal
            omega
          rw [nI_add]
          refine add (m + e) (by omega) ?_
          unfold ew
          rw [ef]
          simp only
          rw [if_pos z1]
  have fails := loop_i (σ := Unit) (fun w k _ => fX6_isObeyed_2 N S (∀ S13 : RS, S13 = sI S 16 0 → (fX6_isObeyed_76 N (fun S28 => (fX6_findSafe N S28 (fun  S29 => (vp_in 0 1024 ∧ ((¬ (S29.2.1 19 (0 : Int32).toNatClampNeg) = 0 → (vp_in 0 1024 ∧ (narrow .boolean (.int (S29.2.1 19 (0 : Int32).toNatClampNeg)) = .int (S29.2.1 19 (0 : Int32).toNatClampNeg) ∧ Q (S29.2.1 19 (0 : Int32).toNatClampNeg) S29))) ∧ ((S29.2.1 19 (0 : Int32).toNatClampNeg) = 0 → (fX6_isObeyed_166 N (fun S38 => (∀ S39 : RS, S39 = sI S38 29 ((S38.1 29) + (1 : Int32)) → (vp_in 0 1024 ∧ (narrow .boolean (.int (S39.2.1 19 (0 : Int32).toNatClampNeg)) = .int (S39.2.1 19 (0 : Int32).toNatClampNeg) ∧ Q (S39.2.1 19 (0 : Int32).toNatClampNeg) S39)))) Q N 0 S29))))))) Q N 0 S13)) Q w (nI k)) (fun _ _ => True) nf (fun w _ _ => lp_end h29 rest) ?_ N 0 () (by omega) (by omega) trivial
  · exact fails
  · rintro w k _ hk _ ih
    obtain ⟨gs, c1, c2, c3⟩ := hfl k hk
    have hgl := c1.1
    refine lp_in h29 (by omega) hk ?_
    have inner := loop_i (σ := Int32) (fun w' i x => fX6_isObeyed_14 N S (nI k) (fun x10 => ((x10 = 0 → (∀ x12 : Int32, x12 = nI k + 1 → fX6_isObeyed_2 N S (∀ S13 : RS, S13 = sI S 16 0 → (fX6_isObeyed_76 N (fun S28 => (fX6_findSafe N S28 (fun  S29 => (vp_in 0 1024 ∧ ((¬ (S29.2.1 19 (0 : Int32).toNatClampNeg) = 0 → (vp_in 0 1024 ∧ (narrow .boolean (.int (S29.2.1 19 (0 : Int32).toNatClampNeg)) = .int (S29.2.1 19 (0 : Int32).toNatClampNeg) ∧ Q (S29.2.1 19 (0 : Int32).toNatClampNeg) S29))) ∧ ((S29.2.1 19 (0 : Int32).toNatClampNeg) = 0 → (fX6_isObeyed_166 N (fun S38 => (∀ S39 : RS, S39 = sI S38 29 ((S38.1 29) + (1 : Int32)) → (vp_in 0 1024 ∧ (narrow .boolean (.int (S39.2.1 19 (0 : Int32).toNatClampNeg)) = .int (S39.2.1 19 (0 : Int32).toNatClampNeg) ∧ Q (S39.2.1 19 (0 : Int32).toNatClampNeg) S39)))) Q N 0 S29))))))) Q N 0 S13)) Q w x12)) ∧ (¬ x10 = 0 → Q 0 S))) Q w' x (nI i)) (fun i x => x = 0 ∨ (x = 1 ∧ ∀ j e g, j < i → es[j]? = some e → gs[j]? = some g → e ≤ g)) W.length ?_ ?_ N 0 1 (by omega) (by omega) (Or.inr ⟨rfl, fun j e g hj => absurd hj (by omega)⟩)
    · exact inner
    · rintro w' x hx
      refine lp_end h42 ⟨fun _ => nm_r (nI_1 k) (ih () trivial), fun c => ?_⟩
      obtain ⟨-, hx⟩ := hx.resolve_left c
      refine h0 (fun hs => c2 ?_) S nf (fo_0 S) hL (by omega)
      refine ease_safe h3 hok c1.2 (lee_of es gs (by omega) (fun j e g he hg => hx j e g ?_ he hg)) hs
      have := (List.getElem?_eq_some_iff.mp he).1
      omega
    · rintro w' i x hi hx ih'
      obtain ⟨e, he⟩ : ∃ e, es[i]? = some e := ⟨es[i]'(by omega), List.getElem?_eq_getElem (by omega)⟩
      obtain ⟨g, hg⟩ : ∃ g, gs[i]? = some g := ⟨gs[i]'(by omega), List.getElem?_eq_getElem (by omega)⟩
      have he4 := hdg e (List.mem_of_getElem? he)
      have hg4 := okk_dig c1.2 g (List.mem_of_getElem? hg)
      refine lp_in h42 (by omega) hi ⟨fun _ => nm_r (nI_1 i) (ih' 0 (Or.inl rfl)), fun c => ⟨vp_in_nI (by omega) (by omega), ?_⟩⟩
      obtain ⟨-, hx⟩ := hx.resolve_left c
      have eix : (((5 : Int32) * nI k) + nI i) = nI (5 * k + i) := by
        rw [show (5 : Int32) = nI 5 from rfl, pk_mul, nI_add]
      rw [eix, nI_clamp (by omega), nI_clamp (by omega), c3 i g hg, hT i e he]
      refine ⟨vp_in_nI (by omega) (by omega), fun c => nm_r (nI_1 i) (ih' 0 (Or.inl rfl)), fun c => nm_r (nI_1 i) (ih' 1 (Or.inr ⟨rfl, fun j e' g' hj he' hg' => ?_⟩))⟩
      by_cases z : j = i
      · subst z
        rw [he] at he'
        rw [hg] at hg'
        cases he'
        cases hg'
        exact Classical.byContradiction (fun z => c (nI_lt (by omega) (by omega)))
      · exact hx j e' g' (by omega) he' hg'
end GO
