/-! peace: the class -/
/-- a law as it lies, its terms' prices -/
def LF (f : Nat → Lw) (pw : Nat → Nat → Nat) (w : Nat) (L : RS) : Prop := ∃ a m x y, a ≤ 2 ∧ m ≤ 3 ∧ x ≤ 99 ∧ y ≤ 99 ∧ L.1 0 = nI a ∧ L.1 1 = nI m ∧ f w = (a, m, tb (L.2.2.1 2), tb (L.2.2.1 3)) ∧ L.1 6 = nI x ∧ L.1 7 = nI y ∧ ∀ e, pw w e = if e = 4 then x else y * e
def CX (f : Nat → Lw) (pw : Nat → Nat → Nat) (W : List Nat) (si : Nat → Option Nat) (lp : List Nat) (pf : Nat → RS) : Prop := ∀ j w, W[j]? = some w → ∃ q, si j = some q ∧ q ∈ lp ∧ LF f pw w (pf q)
def TR (es : List Nat) (a : Nat → Int32) : Prop := ∀ j e, es[j]? = some e → a j = nI e
theorem TR_add {es : List Nat} {a : Nat → Int32} (e : Nat) (h : TR es a) : TR (es ++ [e]) (upd a es.length (nI e)) := by
  intro j x hx
  by_cases z : j < es.length
  · rw [List.getElem?_append_left z] at hx
    rw [pk_un (by omega)]
    exact h j x hx
  · rw [List.getElem?_append_right (by omega)] at hx
    have z2 : j = es.length := by
      have := (List.getElem?_eq_some_iff.mp hx).1
      rw [List.length_singleton] at this
      omega
    subst z2
    rw [Nat.sub_self] at hx
    cases hx
    rw [pk_us]
theorem TR_pre {es rest : List Nat} {a : Nat → Int32} (h : TR (es ++ rest) a) : TR es a := fun j e he => h j e (by rw [List.getElem?_append_left (List.getElem?_eq_some_iff.mp he).1]; exact he)
def CY (o : Option (Nat × List Nat)) (Y : RS) : Prop := Y.1 4 = nI (bnd 1000 o) ∧ bnd 1000 o ≤ 1000 ∧ ∀ P c, o = some (P, c) → TR c (Y.2.1 2)
section TREATY
variable {N : Nat} {f : Nat → Lw} {pw : Nat → Nat → Nat} {W : List Nat} {si : Nat → Option Nat} {lp : List Nat} {pf : Nat → RS}
theorem e_priceOf {w e : Nat} {L : RS} {Q : Int32 → Prop} (hL : LF f pw w L) (he : e ≤ 4) (h : pw w e ≤ 400 → Q (nI (pw w e))) : fX1_priceOf N L (nI e) Q := by
  obtain ⟨a, m, x, y, -, -, hx, hy, -, -, -, e6, e7, hp⟩ := hL
  unfold fX1_priceOf
  rw [e6, e7]
  refine ⟨fun c => ?_, fun c => ?_⟩
  · have z : ¬ e = 4 := fun z => c (by rw [z]; rfl)
    rw [hp e, if_neg z] at h
    rw [pk_mul]
    exact h (Nat.le_trans (Nat.mul_le_mul hy (show e ≤ 4 from he)) (by decide))
  · have z : e = 4 := (nI_eq (b := 4) (by omega) (by omega)).mp c
    rw [hp e, if_pos z] at h
    exact h (by omega)
theorem e_eased {w e : Nat} {L : RS} {Q : Int32 → Prop} (hL : LF f pw w L) (he : e < 4) (ha : al (f w) e) (h : (ew (f w) e).2.1 ≤ 3 → Q (nI (ew (f w) e).2.1)) : fX1_eased N L (nI e) Q := by
  obtain ⟨a, m, x, y, ha2, hm, hx, hy, e0, e1, ef, -, -, -⟩ := hL
  unfold fX1_eased
  unfold ew at h
  unfold al at ha
  rw [ef] at h ha
  simp only at h ha
  rw [e0, e1]
  refine ⟨fun c => ?_, fun c => ?_⟩
  · have z : ¬ a = 1 := fun z => c (by rw [z]; rfl)
    rw [if_neg z] at h
    rw [pk_sub (by omega)]
    exact h (by omega)
  · have z : a = 1 := (nI_eq (b := 1) (by omega) (by omega)).mp c
    rw [if_pos z] at h
    rw [nI_add]
    exact h (by omega)
theorem e_allows {w e : Nat} {L : RS} {Q : Int32 → Prop} (hL : LF f pw w L) (he : e ≤ 4) (h1 : al (f w) e → Q 1) (h0 : ¬ al (f w) e → Q 0) : fX1_allows N L (nI e) Q := by
  obtain ⟨a, m, x, y, ha2, hm, hx, hy, e0, e1, ef, -, -, -⟩ := hL
  unfold fX1_allows fX1_eased
  unfold al at h1 h0
  rw [ef] at h1 h0
  simp only at h1 h0
  rw [e0, e1]
  refine ⟨fun c => h1 (Or.inl ((nI_eq (b := 0) (by omega) (by omega)).mp c)), fun c0 => ⟨fun c4 => ?_, fun c => h1 (Or.inr (Or.inl ((nI_eq (b := 4) (by omega) (by omega)).mp c)))⟩⟩
  have z0 : ¬ e = 0 := fun z => c0 (by rw [z]; rfl)
  have z4 : ¬ e = 4 := fun z => c4 (by rw [z]; rfl)
  refine ⟨fun c => h0 ?_, fun c => ?_⟩
  · have z : a = 0 := (nI_eq (b := 0) (by omega) (by omega)).mp c
    omega
  · have za : ¬ a = 0 := fun z => c (by rw [z]; rfl)
    refine ⟨fun c1 => ?_, fun c1 => ?_⟩
    · have z1 : ¬ a = 1 := fun z => c1 (by rw [z]; rfl)
      by_cases le : e ≤ m
      · rw [pk_sub le]
        refine ⟨fun c => absurd c (nI_pos (by omega)), fun _ => ⟨fun _ => ⟨fun c => absurd (show nI 3 < nI (m - e) from c) (nI_nlt (by omega) (by omega)), fun _ => h1 (by omega)⟩, fun c => absurd c c1⟩⟩
      · have neg : nI m - nI e < 0 := by
          have : ∀ m, m < 4 → ∀ e, e < 5 → m < e → nI m - nI e < 0 := by decide
          exact this m (by omega) e (by omega) (by omega)
        exact ⟨fun _ => h0 (by omega), fun c => absurd neg c⟩
    · have z1 : a = 1 := (nI_eq (b := 1) (by omega) (by omega)).mp c1
      rw [nI_add]
      refine ⟨fun c => absurd c (nI_pos (by omega)), fun _ => ⟨fun c => absurd c1 c, fun _ => ?_⟩⟩
      by_cases le : m + e ≤ 3
      · exact ⟨fun c => absurd (show nI 3 < nI (m + e) from c) (nI_nlt le (by omega)), fun _ => h1 (by omega)⟩
      · exact ⟨fun _ => h0 (by omega), fun c => absurd (show nI 3 < nI (m + e) from nI_lt (by omega) (by omega)) c⟩
theorem CX_3 (hX : CX f pw W si lp pf) : ∀ w, w ∈ W → (f w).2.1 ≤ 3 := by
  intro w hw
  obtain ⟨j, hj⟩ := List.getElem?_of_mem hw
  obtain ⟨q, -, -, a, m, x, y, -, hm, -, -, -, -, ef, -⟩ := hX j w hj
  rw [ef]
  exact hm
theorem e_stands {es : List Nat} {Y G : RS} {Q : Int32 → RS → Prop} (hN : 1100 ≤ N) (hX : CX f pw W si lp pf) (hk : W.length ≤ 4) (hl : es.length ≤ W.length) (hok : okk f W es) (hT : TR es (Y.2.1 1)) (h1 : Safe (lws f W es) 0 → ∀ G', Q 1 G') (h0 : ¬ Safe (lws f W es) 0 → ∀ G', Q 0 G') : fX4_stands N Y si G lp pf (nI es.length) Q := by
  unfold fX4_stands
  have h3 := CX_3 hX
  have key : ∀ (fu j : Nat) (G : RS) (op : List Nat), j ≤ es.length → es.length - j < fu → LY (lws f W (es.take j)) ((lws f W (es.take j)).map hi1) op G → fX4_stands_6 N Y si lp pf (nI es.length) (fun G19 => (fX4_stands_58 N Y si G19 lp pf Q)) Q fu (nI j) G := by
    intro fu
    induction fu with
    | zero => intro j G op _ hf; omega
    | succ fu ih =>
      intro j G op hj hf hLY
      by_cases z : j = es.length
      · subst z
        refine lp_end rfl ?_
        rw [List.take_length] at hLY
        obtain ⟨hG, hO, hnd, hmem, hhl, hol⟩ := hLY
        unfold fX4_stands_58
        have hlen := lws_len (f := f) W es
        refine e_solve hN (CL_of (by omega) (lws_hi W es h3 hok)) (inC_0 _) hG hO hnd hmem (fun G' hD => e_lostIn0 ?_)
        obtain ⟨r, hr, er, hR⟩ := SD_0 hD (inC_0 _)
        rw [er]
        refine ⟨fun c => h0 (fun hs => ?_) G', fun c => h1 ?_ G'⟩
        · have zr : ¬ r = 0 := fun z => c (by rw [z]; rfl)
          exact hs r (Rk_p hR zr).1
        · have zr : r = 0 := (nI_eq (b := 0) (by omega) (by omega)).mp c
          subst zr
          exact Rk_0 hR
      · have hj' : j < es.length := by omega
        obtain ⟨e, he⟩ : ∃ e, es[j]? = some e := ⟨es[j], List.getElem?_eq_getElem hj'⟩
        obtain ⟨w, hw⟩ : ∃ w, W[j]? = some w := ⟨W[j]'(by omega), List.getElem?_eq_getElem (by omega)⟩
        have elen : (es.take j).length = j := by rw [List.length_take]; omega
        have etk : es.take (j + 1) = es.take j ++ [e] := by rw [List.take_succ, he]; rfl
        have hoj : okk f W (es.take j ++ [e]) := by
          rw [← etk]
          refine okk_pre (rest := es.drop (j + 1)) ?_
          rw [List.take_append_drop]
          exact hok
        have hal : al (f w) e := okk_at (rest := []) (by rw [elen]; exact hw) hoj
        have hsn := lws_snoc (f := f) (e := e) (W := W) (es := es.take j) (by rw [elen]; exact hw)
        obtain ⟨q, s1, s2, hLF⟩ := hX j w hw
        refine lp_in rfl (by omega) hj' ⟨fun c => absurd (show nI 4 ≤ nI j from c) (nI_ge (by omega) (by omega)), fun _ => ⟨vp_in_nI (by omega) (by omega), ?_⟩⟩
        rw [nI_clamp (by omega), hT j e he]
        have le4 := al_le hal
        refine ⟨fun c => nm_r (nI_1 j) (ih (j + 1) G op (by omega) (by omega) ?_), fun c => ?_⟩
        · have z4 : e = 4 := (nI_eq (b := 4) (by omega) (by omega)).mp c
          rw [etk, hsn, if_pos z4, List.append_nil]
          exact hLY
        · have z4 : ¬ e = 4 := fun z => c (by rw [z]; rfl)
          refine ⟨vp_in_nI (by omega) (by omega), q, s1, vp_in_nI (by omega) (by omega), q, s1, vp_in_nI (by omega) (by omega), s2, e_eased hLF (by omega) hal (fun hm3 => ⟨s2, ?_⟩)⟩
          obtain ⟨a, m, x, y, ha2, hm, -, -, e0, e1, ef, -, -, -⟩ := hLF
          have hll := lws_len (f := f) W (es.take j)
          refine e_enter hN hLY (by omega) ha2 hm3 e0 (fun G' op' hL' => nm_r (nI_1 j) (ih (j + 1) G' op' (by omega) (by omega) ?_))
          rw [etk, hsn, if_neg z4, List.map_append]
          have ee : ew (f w) e = (a, (ew (f w) e).2.1, tb ((pf q).2.2.1 2), tb ((pf q).2.2.1 3)) := by
            unfold ew
            rw [ef]
          have eh : [if a = 0 then 0 else if (0 : Int32) = 0 then (ew (f w) e).2.1 else 3] = [ew (f w) e].map hi1 := by
            rw [ee]
            rfl
          rw [← eh]
          rw [← ee] at hL'
          exact hL'
  refine e_begin (fun G' hL => key N 0 G' [0] (by omega) (by omega) ?_)
  rw [List.take_zero, lws_nil]
  exact hL
theorem e_settle (hN : 1100 ≤ N) (hX : CX f pw W si lp pf) (hk : W.length ≤ 4) : ∀ (r dn : Nat) (es : List Nat) (Y G : RS) (o : Option (Nat × List Nat)) (Q : RS → RS → Prop), es.length + r = W.length → 2 * r + 1 ≤ dn → okk f W es → Safe (lws f W es) 0 → prc pw W es < bnd 1000 o → bst f pw W 1000 (cd es * 5 ^ r) o → CY o Y → Y.1 3 = nI W.length → TR es (Y.2.1 1) → (∀ Y' G' o', bst f pw W 1000 ((cd es + 1) * 5 ^ r) o' → CY o' Y' → Y'.1 3 = nI W.length → TR es (Y'.2.1 1) → Q Y' G') → gX4 N dn 0 Y si G lp pf (nI es.length) 0 (nI (prc pw W es)) Q := by
  have h3 := CX_3 hX
  intro r
  induction r with
  | zero =>
    intro dn es Y G o Q hl hdn hok hs hp hb hC hY3 hT h
    obtain ⟨dn, rfl⟩ : ∃ d, dn = d + 1 := ⟨dn - 1, by omega⟩
    show bX4_settle (gX4 N dn 1) N Y si G lp pf (nI es.length) (nI (prc pw W es)) Q
    unfold bX4_settle
    rw [hY3, show W.length = es.length by omega]
    refine lp_end rfl (nm_e (nm_e ?_))
    rw [Nat.pow_zero, Nat.mul_one] at hb
    refine h _ G (some (prc pw W es, es)) ?_ ⟨rfl, ?_, fun P c e => ?_⟩ ?_ hT
    · rw [Nat.pow_zero, Nat.mul_one]
      exact bst_set hb ⟨by omega, hok⟩ hs hp
    · have := hC.2.1
      show prc pw W es ≤ 1000
      omega
    · cases e
      intro j e he
      have hj : j < es.length := (List.getElem?_eq_some_iff.mp he).1
      show va_cpy (Y.2.1 1) (Y.2.1 2) 0 0 4 j = nI e
      rw [pk_cpy_in (by omega) (by omega), Nat.sub_zero, Nat.zero_add]
      exact hT j e he
    · show Y.1 3 = _
      rw [hY3]
  | succ r ihr =>
    intro dn es Y G o Q hl hdn hok hs hp hb hC hY3 hT h
    obtain ⟨dn, rfl⟩ : ∃ d, dn = d + 2 := ⟨dn - 2, by omega⟩
    have hi : es.length < W.length := by omega
    obtain ⟨w, hw⟩ : ∃ w, W[es.length]? = some w := ⟨W[es.length], List.getElem?_eq_getElem hi⟩
    obtain ⟨q, s1, s2, hLF⟩ := hX es.length w hw
    have e5 : ∀ x, x * 5 ^ (r + 1) = (5 * x) * 5 ^ r := by
      intro x
      rw [Nat.pow_succ, Nat.mul_comm (5 ^ r) 5, ← Nat.mul_assoc, Nat.mul_comm x 5]
    have hdg := okk_dig hok
    have hp0 : prc pw W es < 1000 := by have := hC.2.1; omega
    show bX4_settle (gX4 N (dn + 1) 1) N Y si G lp pf (nI es.length) (nI (prc pw W es)) Q
    unfold bX4_settle
    refine lp_in hY3 (by omega) hi ⟨fun _ => ?_, fun c => absurd (show nI es.length < nI 4 from nI_lt (by omega) (by omega)) c⟩
    have key : ∀ (fu t : Nat) (Y G : RS) (o : Option (Nat × List Nat)), t ≤ 5 → 5 - t < fu → bst f pw W 1000 ((5 * cd es + t) * 5 ^ r) o → CY o Y → Y.1 3 = nI W.length → TR es (Y.2.1 1) → fX4_settle_36 (gX4 N (dn + 1) 1) N si lp pf (nI es.length) (nI (prc pw W es)) (fun Y10 G11 => Q Y10 G11) Q fu (nI t) Y G := by
      intro fu
      induction fu with
      | zero => intro t Y G o _ hf; omega
      | succ fu ih =>
        intro t Y G o ht hf hb hC hY3 hT
        by_cases z5 : t = 5
        · subst z5
          refine ⟨fun _ => h Y G o ?_ hC hY3 hT, fun c => absurd (show nI 4 < nI 5 from nI_lt (by omega) (by omega)) c⟩
          rw [e5, show 5 * (cd es + 1) = 5 * cd es + 5 by omega]
          exact hb
        · refine ⟨fun c => absurd (show nI 4 < nI t from c) (nI_nlt (by omega) (by omega)), fun _ => ?_⟩
          have hTT : (5 * cd es + t) * 5 ^ r ≤ (5 * cd es + (t + 1)) * 5 ^ r := Nat.mul_le_mul_right _ (by omega)
          have go : ∀ (Y' G' : RS) (o' : Option (Nat × List Nat)), bst f pw W 1000 ((5 * cd es + (t + 1)) * 5 ^ r) o' → CY o' Y' → Y'.1 3 = nI W.length → TR es (Y'.2.1 1) → (∀ x9 : Int32, x9 = nI t + 1 → fX4_settle_36 (gX4 N (dn + 1) 1) N si lp pf (nI es.length) (nI (prc pw W es)) (fun Y10 G11 => Q Y10 G11) Q fu x9 Y' G') := fun Y' G' o' c1 c2 c3 c4 => nm_r (nI_1 t) (ih (t + 1) Y' G' o' (by omega) (by omega) c1 c2 c3 c4)
          have inter : ∀ fs, full f W fs → (5 * cd es + t) * 5 ^ r ≤ cd fs → cd fs < (5 * cd es + (t + 1)) * 5 ^ r → ∃ rest, fs = (es ++ [t]) ++ rest := by
            intro fs hfs c1 c2
            refine cd_pre (r := r) ?_ ?_ (okk_dig hfs.2) ?_ ?_
            · rw [hfs.1, List.length_append, List.length_singleton]
              omega
            · intro e he
              rw [List.mem_append, List.mem_singleton] at he
              rcases he with he | he
              · exact hdg e he
              · omega
            · rw [cd_snoc]
              exact c1
            · rw [cd_snoc]
              exact c2
          have hpe := prc_snoc (pw := pw) (e := t) hw
          have hlm : prc pw W es ≤ 1000 := by have := hp0; omega
          show bX4_offer (fun Y_ si_ G_ lp_ pf_ z0 z1 Q_ => gX4 N dn 0 Y_ si_ G_ lp_ pf_ z0 0 z1 Q_) N Y si G lp pf (nI es.length) (nI t) (nI (prc pw W es)) _
          unfold bX4_offer
          rw [nI_clamp (by omega)]
          refine ⟨vp_in_nI (by omega) (by omega), q, s1, s2, e_priceOf hLF (by omega) (fun hpw => ?_)⟩
          rw [nI_add, ← hpe, hC.1]
          refine nm_e ⟨fun c => ?_, fun c => ?_⟩
          · have hle : bnd 1000 o ≤ prc pw W (es ++ [t]) := by
              refine Classical.byContradiction (fun z => ?_)
              exact absurd c (nI_ge (by omega) (by have := hC.2.1; omega))
            refine go Y G o (bst_skip hb hTT (fun fs hfs c1 c2 _ => ?_)) hC hY3 hT
            obtain ⟨rest, rfl⟩ := inter fs hfs c1 c2
            exact Nat.le_trans hle (prc_pre W _)
          · have hlt : prc pw W (es ++ [t]) < bnd 1000 o := by
              refine Classical.byContradiction (fun z => c (nI_le (by omega) (by omega)))
            refine ⟨vp_in_nI (by omega) (by omega), q, s1, s2, e_allows hLF (by omega) (fun ha => ⟨fun _ => ⟨vp_in_nI (by omega) (by omega), nm_e ?_⟩, fun c => absurd c (by decide)⟩) (fun ha => ⟨fun c => absurd rfl c, fun _ => ?_⟩)⟩
            · have hok' := okk_snoc hw hok ha
              have hT' : TR (es ++ [t]) ((sA Y 1 (upd (Y.2.1 1) es.length (nI t))).2.1 1) := TR_add t hT
              have hsn := lws_snoc (f := f) (e := t) hw
              have el' : (es ++ [t]).length = es.length + 1 := by rw [List.length_append]; rfl
              have sub : ∀ G' : RS, Safe (lws f W (es ++ [t])) 0 → fX4_offer_61 (fun Y_ si_ G_ lp_ pf_ z0 z1 Q_ => gX4 N dn 0 Y_ si_ G_ lp_ pf_ z0 0 z1 Q_) N (sA Y 1 (upd (Y.2.1 1) es.length (nI t))) si G' lp pf (nI es.length) (nI (prc pw W (es ++ [t]))) (fun Y6 G7 => (∀ x9 : Int32, x9 = nI t + 1 → fX4_settle_36 (gX4 N (dn + 1) 1) N si lp pf (nI es.length) (nI (prc pw W es)) (fun Y10 G11 => Q Y10 G11) Q fu x9 Y6 G7)) := by
                intro G' hs'
                unfold fX4_offer_61
                rw [nI_1, ← el']
                refine ihr dn (es ++ [t]) _ G' o _ (by omega) (by omega) hok' hs' hlt ?_ hC hY3 hT' (fun Y' G'' o' c1 c2 c3 c4 => go Y' G'' o' ?_ c2 c3 (TR_pre c4))
                · rw [cd_snoc]
                  exact hb
                · rw [cd_snoc] at c1
                  exact c1
              refine ⟨fun c => sub G ?_, fun c => ?_⟩
              · have z4 : t = 4 := (nI_eq (b := 4) (by omega) (by omega)).mp c
                rw [hsn, if_pos z4, List.append_nil]
                exact hs
              · rw [nI_1, ← el']
                refine e_stands hN hX hk (by omega) hok' hT' (fun hs' G' => ⟨fun c => absurd c (by decide), fun _ => ?_⟩) (fun hs' G' => ⟨fun _ => ?_, fun c => absurd rfl c⟩)
                · exact sub G' hs'
                · refine go _ G' o (bst_skip hb hTT (fun fs hfs c1 c2 hsf => ?_)) hC hY3 (TR_pre hT')
                  obtain ⟨rest, rfl⟩ := inter fs hfs c1 c2
                  exact absurd (ease_safe h3 hfs.2 hok' (lee_pre _ _) hsf) hs'
            · refine go Y G o (bst_skip hb hTT (fun fs hfs c1 c2 _ => ?_)) hC hY3 hT
              obtain ⟨rest, rfl⟩ := inter fs hfs c1 c2
              have hh := hfs.2
              rw [List.append_assoc] at hh
              exact absurd (okk_at hw hh) ha
    refine key N 0 Y G o (by omega) (by omega) ?_ hC hY3 hT
    rw [e5] at hb
    exact hb
end TREATY
