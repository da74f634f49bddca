/-! members of a set of wants, their ranks; holds, made, state -/
def rkn (set j : Nat) : Nat := fb_ct (fun i => set.testBit i) j
theorem mem_succ (set n : Nat) : mem set (n + 1) = mem set n ++ (if set.testBit n then [n] else []) := by
  unfold mem
  rw [List.range_succ, List.filter_append]
  congr 1
  cases h : set.testBit n <;> simp [h]
theorem mem_len (set n : Nat) : (mem set n).length = rkn set n := by
  induction n with
  | zero => rfl
  | succ n ih =>
    rw [mem_succ, List.length_append, ih]
    show _ = fb_ct _ (n + 1)
    rw [fb_ct_succ]
    unfold rkn
    cases h : set.testBit n <;> simp [h]
theorem mem_at {set n j : Nat} (hj : j < n) (hb : set.testBit j = true) : (mem set n)[rkn set j]? = some j := by
  induction n with
  | zero => omega
  | succ n ih =>
    rw [mem_succ]
    by_cases q : j = n
    · subst q
      rw [List.getElem?_append_right (by rw [mem_len]; exact Nat.le_refl _), mem_len, Nat.sub_self, if_pos hb]
      rfl
    · have h := ih (by omega)
      rw [List.getElem?_append_left]
      · exact h
      · exact (List.getElem?_eq_some_iff.mp h).1
theorem rkn_lt {set n j : Nat} (hj : j < n) (hb : set.testBit j = true) : rkn set j < (mem set n).length := (List.getElem?_eq_some_iff.mp (mem_at hj hb)).1
theorem mem_get {set n i w : Nat} (h : (mem set n)[i]? = some w) : w < n ∧ set.testBit w = true ∧ rkn set w = i := by
  have hm : w ∈ mem set n := List.mem_of_getElem? h
  have hm2 : w < n ∧ set.testBit w = true := by
    unfold mem at hm
    rw [List.mem_filter, List.mem_range] at hm
    exact hm
  refine ⟨hm2.1, hm2.2, ?_⟩
  have hi : i < (mem set n).length := (List.getElem?_eq_some_iff.mp h).1
  rw [mem_len] at hi
  obtain ⟨j, hj, hb, e⟩ := fb_ct_kth hi
  have h2 := mem_at hj hb
  rw [show rkn set j = i from e, h] at h2
  cases h2
  exact e
theorem rkn_mod {set j : Nat} (hj : j ≤ 20) : pcn (set % 2 ^ j) = rkn set j := by
  unfold pcn rkn
  rw [show (20 : Nat) = j + (20 - j) by omega, fb_ct_split]
  have h1 : fb_ct (fun i => (set % 2 ^ j).testBit i) j = fb_ct (fun i => set.testBit i) j := fb_ct_cong (fun k hk => by
    rw [Nat.testBit_mod_two_pow]
    simp [hk])
  have h2 : fb_ct (fun k => (set % 2 ^ j).testBit (j + k)) (20 - j) = 0 := fb_ct_zero.mpr (fun k hk => by
    show (set % 2 ^ j).testBit (j + k) = false
    rw [Nat.testBit_mod_two_pow, decide_eq_false (by omega), Bool.false_and])
  rw [h1]
  omega
theorem rkn_le (set j : Nat) : rkn set j ≤ j := fb_ct_le _ _
theorem low_mask {set j : Nat} (hj : j < 31) : nI set &&& (((1 : Int32) <<< (nI j &&& 31)) - (1 : Int32)) = nI (set % 2 ^ j) := by
  rw [shl_1 hj]
  have : (2 : Nat) ^ j = (2 ^ j - 1) + 1 := by have := Nat.two_pow_pos j; omega
  rw [this, nI_pred, nx_and, Nat.and_two_pow_sub_one_eq_mod, ← this]
theorem hi_bit {set n j : Nat} (h : set < 2 ^ n) (hj : n ≤ j) : set.testBit j = false := Nat.testBit_lt_two_pow (Nat.lt_of_lt_of_le h (Nat.pow_le_pow_right (by omega) hj))
theorem s_20 {set n : Nat} (h : set < 2 ^ n) (hn : n ≤ 20) : set < 2 ^ 20 := Nat.lt_of_lt_of_le h (Nat.pow_le_pow_right (by omega) hn)
section MEMBERS
variable {N : Nat} {sb st sp sd ss sy S : RS} {lw si : Nat → Option Nat} {lp : List Nat} {pf : Nat → RS}
theorem step_18 (hN : 30 ≤ N) (h : Inv sb lw st sp sd ss sy si lp pf S) (v : Int32) : cL_18 N sb lw st sp sd ss sy si lp pf S v Inv := by
  have keep := h
  obtain ⟨n, ad, hW, hT, hD, hR, hP, hPl, ⟨set, hs, es1, es2, hset⟩⟩ := h
  obtain ⟨hn, ec, ew, hl, inj, hz⟩ := id hW
  unfold cL_18 fX5_made fX5_isWithin fX6_made
  rw [es1, es2]
  by_cases hv : ∃ j, 0 ≤ j ∧ j ≤ 19 ∧ v = nI j
  · obtain ⟨j, -, hj, e⟩ := hv
    subst e
    refine wc_yes (lo := 0) (hi := 19) (by omega) hj (by omega) ⟨fun c => absurd c (by decide), fun _ => e_isIn (by omega) ?_⟩
    rw [bt_nI (by omega)]
    cases hb : set.testBit j with
    | false =>
      refine ⟨fun c => absurd rfl c, fun _ => ?_⟩
      by_cases q : j < n
      · refine e_isWant_yes ew hn q ⟨fun c => absurd c (by decide), fun _ => ?_⟩
        rw [sshr_bit (by omega), bt_nI (by omega), hb]
        exact ⟨fun c => absurd rfl c, fun _ => ⟨rfl, keep⟩⟩
      · refine e_isWant_no ew hn (fun ⟨i, hi, e⟩ => q ?_) ⟨fun _ => ⟨rfl, keep⟩, fun c => absurd rfl c⟩
        rw [(nI_eq (by omega) (by omega)).mp e]
        exact hi
    | true =>
      have q : j < n := by
        rcases Nat.lt_or_ge j n with a | a
        · exact a
        · rw [hi_bit hs a] at hb
          cases hb
      have h0 : 0 < set := by
        rcases Nat.eq_zero_or_pos set with e | e
        · rw [e, Nat.zero_testBit] at hb
          cases hb
        · exact e
      obtain ⟨esz, hlen, hbm⟩ := hset h0
      have hr := rkn_lt q hb
      refine ⟨fun _ => ?_, fun c => absurd c (by decide)⟩
      rw [low_mask (by omega)]
      refine e_bitCount (Nat.lt_of_le_of_lt (Nat.mod_le _ _) (s_20 hs hn)) ?_
      rw [rkn_mod (by omega)]
      unfold fX4_termOf
      refine ⟨fun c => absurd c (nI_pos (by omega)), fun _ => ⟨fun c => absurd (by rw [esz] at c; exact c) (nI_ge hr (by omega)), fun _ => ⟨vp_in_nI (by omega) (by omega), ?_⟩⟩⟩
      rw [nI_clamp (by omega), hbm _ hr]
      refine e_isWant_yes ew hn q ⟨fun c => absurd c (by decide), fun _ => ?_⟩
      rw [sshr_bit (by omega), bt_nI (by omega), hb]
      refine ⟨fun _ => ?_, fun c => absurd c (by decide)⟩
      have fe : ∀ i, i ≤ j → fold (fun i x => x + (if set.testBit i then 1 else 0)) i 0 = nI (rkn set i) := by
        intro i
        induction i with
        | zero => intro _; rfl
        | succ i ih =>
          intro hi
          show fold _ i 0 + _ = nI (fb_ct _ (i + 1))
          rw [ih (by omega), fb_ct_succ]
          cases hq : set.testBit i
          · exact Int32.add_zero _
          · exact nI_1 _
      refine fold_up (F := fun w x v' => fX6_made_25 N S (nI j) _ _ w x v') (g := fun i x => x + (if set.testBit i then 1 else 0)) (fun w x h => lp_end rfl h) (fun w x i hi h => lp_in rfl (by omega) hi ?_) (show j < N by omega) ?_
      · rw [es2, sshr_bit (by omega), bt_nI (by omega)]
        exact nm_e (nm_r (nI_1 i) h)
      · rw [fe j (Nat.le_refl _), nI_clamp (by omega)]
        exact ⟨vp_in_nI (by omega) (by omega), rfl, keep⟩
  · refine wc_no (lo := 0) (hi := 19) (by omega) (by omega) hv ⟨fun _ => ?_, fun c => absurd rfl c⟩
    exact e_isWant_no ew hn (fun ⟨i, hi, e⟩ => hv ⟨i, by omega, by omega, e⟩) ⟨fun _ => ⟨rfl, keep⟩, fun c => absurd rfl c⟩
theorem inC_lt {hs : List Nat} {p : Nat} (h : inC hs p) : p < 4 ^ hs.length := by
  induction hs generalizing p with
  | nil => rw [show p = 0 from h]; decide
  | cons a hs ih =>
    have := ih h.2
    rw [List.length_cons, Nat.pow_succ]
    omega
theorem pw5 {k : Nat} (h : k ≤ 5) : 4 ^ k ≤ 1024 := Nat.le_trans (Nat.pow_le_pow_right (by omega) h) (by decide)
theorem e_stateAt {p r : Nat} {Q : Int32 → Prop} (hp : p < 2 ^ 31) (hr : r ≤ 5) (h : Q (nI (p / 4 ^ r % 4))) : fX0_stateAt N (nI p) (nI r) Q := by
  unfold fX0_stateAt
  rw [show (2 : Int32) = nI 2 from rfl, pk_mul, ush_c (by omega) (by omega), pk_andN (Nat.lt_of_le_of_lt (Nat.div_le_self _ _) (by omega)) 2 (by decide)]
  rw [Nat.pow_mul] 
  exact h
theorem step_12 (hN : 30 ≤ N) (h : Inv sb lw st sp sd ss sy si lp pf S) (v : Int32) : cL_12 N sb lw st sp sd ss sy si lp pf S v Inv := by
  have keep := h
  obtain ⟨n, ad, hW, hT, hD, hR, hP, hPl, hTr⟩ := h
  obtain ⟨hn, ec, ew, hl, inj, hz⟩ := id hW
  unfold cL_12 fX5_state fX5_isWithin fX6_state
  by_cases hv : ∃ j, 0 ≤ j ∧ j ≤ 19 ∧ v = nI j
  · obtain ⟨j, -, hj, e⟩ := hv
    subst e
    refine wc_yes (lo := 0) (hi := 19) (by omega) hj (by omega) ⟨fun c => absurd c (by decide), fun _ => e_isIn (by omega) ?_⟩
    rcases hPl with ⟨e21, ecs⟩ | ⟨e21, set, p, h0, hs, hlen, e22, ecs, e23, ecp, -, hin, -⟩
    · rw [ecs, e21, show (0 : Int32) = nI 0 from rfl, bt_nI (by omega), Nat.zero_testBit]
      refine ⟨fun c => absurd rfl c, fun _ => ?_⟩
      by_cases q : j < n
      · exact e_isWant_yes ew hn q ⟨fun c => absurd c (by decide), fun _ => ⟨fun _ => ⟨rfl, keep⟩, fun c => absurd rfl c⟩⟩
      · refine e_isWant_no ew hn (fun ⟨i, hi, e⟩ => q ?_) ⟨fun _ => ⟨rfl, keep⟩, fun c => absurd rfl c⟩
        rw [(nI_eq (by omega) (by omega)).mp e]
        exact hi
    · rw [ecs, e21, e22, ecp, e23, bt_nI (by omega)]
      have hp : p < 1024 := Nat.lt_of_lt_of_le (inC_lt hin) (pw5 (by rw [List.length_map, List.length_map]; exact hlen))
      cases hb : set.testBit j with
      | false =>
        refine ⟨fun c => absurd rfl c, fun _ => ?_⟩
        by_cases q : j < n
        · refine e_isWant_yes ew hn q ⟨fun c => absurd c (by decide), fun _ => ⟨fun c => absurd c (by decide), fun _ => ?_⟩⟩
          rw [sshr_bit (by omega), bt_nI (by omega), hb]
          exact ⟨fun c => absurd rfl c, fun _ => ⟨rfl, keep⟩⟩
        · refine e_isWant_no ew hn (fun ⟨i, hi, e⟩ => q ?_) ⟨fun _ => ⟨rfl, keep⟩, fun c => absurd rfl c⟩
          rw [(nI_eq (by omega) (by omega)).mp e]
          exact hi
      | true =>
        have q : j < n := by
          rcases Nat.lt_or_ge j n with a | a
          · exact a
          · rw [hi_bit hs a] at hb
            cases hb
        have hr := rkn_lt q hb
        refine ⟨fun _ => ?_, fun c => absurd c (by decide)⟩
        rw [low_mask (by omega)]
        refine e_bitCount (Nat.lt_of_le_of_lt (Nat.mod_le _ _) (s_20 hs hn)) ?_
        rw [rkn_mod (by omega)]
        refine e_stateAt (by omega) (by omega) ?_
        refine e_isWant_yes ew hn q ⟨fun c => absurd c (by decide), fun _ => ⟨fun c => absurd c (by decide), fun _ => ?_⟩⟩
        rw [sshr_bit (by omega), bt_nI (by omega), hb]
        refine ⟨fun _ => nm_e ?_, fun c => absurd c (by decide)⟩
        have fe : ∀ i, i ≤ j → fold (fun i x => if set.testBit i then x / 4 else x / 1) i (nI p) = nI (p / 4 ^ (rkn set i)) := by
          intro i
          induction i with
          | zero => intro _; show nI p = nI (p / 4 ^ 0); rw [Nat.pow_zero, Nat.div_one]
          | succ i ih =>
            intro hi
            show (if set.testBit i then fold _ i (nI p) / 4 else fold _ i (nI p) / 1) = nI (p / 4 ^ (fb_ct _ (i + 1)))
            have hlt : p / 4 ^ rkn set i < 2 ^ 31 := Nat.lt_of_le_of_lt (Nat.div_le_self _ _) (by omega)
            rw [ih (by omega), fb_ct_succ]
            cases hq : set.testBit i
            · show nI _ / nI 1 = _
              rw [pk_div hlt (by omega) (by omega), Nat.div_one]
              rfl
            · show nI _ / nI 4 = _
              rw [pk_div hlt (by omega) (by omega), Nat.div_div_eq_div_mul]
              rfl
        refine fold_up (F := fun w x v' => fX6_state_35 N S (nI j) _ _ w x v') (g := fun i x => if set.testBit i then x / 4 else x / 1) (fun w x h => lp_end rfl h) (fun w x i hi h => lp_in rfl (by omega) hi ?_) (show j < N by omega) ?_
        · rw [e22, sshr_bit (by omega), bt_nI (by omega)]
          refine sel1 (fun c => ?_) (fun c => ?_)
          · simp only [c] at h
            exact nm_e (nm_r (nI_1 i) h)
          · simp only [c] at h
            exact nm_e (nm_r (nI_1 i) h)
        · rw [fe j (Nat.le_refl _), show (4 : Int32) = nI 4 from rfl, pk_rem (Nat.lt_of_le_of_lt (Nat.div_le_self _ _) (by omega)) (by omega) (by omega)]
          exact ⟨rfl, keep⟩
  · refine wc_no (lo := 0) (hi := 19) (by omega) (by omega) hv ⟨fun _ => ?_, fun c => absurd rfl c⟩
    exact e_isWant_no ew hn (fun ⟨i, hi, e⟩ => hv ⟨i, by omega, by omega, e⟩) ⟨fun _ => ⟨rfl, keep⟩, fun c => absurd rfl c⟩
theorem step_5 (h : Inv sb lw st sp sd ss sy si lp pf S) (v w i o : Int32) : cL_5 N sb lw st sp sd ss sy si lp pf S v w i o Inv := by
  have keep := h
  obtain ⟨n, ad, hW, hT, hD, hR, hP, hPl, hTr⟩ := h
  obtain ⟨hn, ec, ew, hl, inj, hz⟩ := id hW
  unfold cL_5 fX5_holds fX6_holds
  by_cases hv : ∃ j, j < n ∧ v = nI j
  · obtain ⟨j, hj, e⟩ := hv
    subst e
    have ej : (nI j).toNatClampNeg = j := nI_clamp (by omega)
    have hvi : vp_in (nI j) 20 := vp_in_nI (by omega) (by omega)
    obtain ⟨a1, a2, ⟨b1, b2, b3, b4, -⟩, ⟨⟨a, ha, ea⟩, ⟨m, hm, em⟩, -⟩⟩ := hl j hj
    refine e_lawOf_yes ec hn hj ?_
    rw [a1]
    refine ⟨fun c => (by cases c), fun q e => ?_⟩
    cases e
    have start : ∀ {r : Int32}, fX6_holds_24 N S (nI j) w i o w 0 (if S.2.1 3 j = 0 then 0 else 1) (fun r2 => r = r2 ∧ Inv sb lw st sp sd ss sy si lp pf S) → fX6_isWant N S (nI j) (fun r1 => ((r1 = 0 → (r = -1 ∧ Inv sb lw st sp sd ss sy si lp pf S)) ∧ (¬ r1 = 0 → (vp_in (nI j) 20 ∧ ((¬ (S.2.1 3 (nI j).toNatClampNeg) = 0 → (fX6_holds_24 N S (nI j) w i o w 0 1 (fun r2 => r = r2 ∧ Inv sb lw st sp sd ss sy si lp pf S))) ∧ ((S.2.1 3 (nI j).toNatClampNeg) = 0 → (fX6_holds_24 N S (nI j) w i o w 0 0 (fun r2 => r = r2 ∧ Inv sb lw st sp sd ss sy si lp pf S)))))))) := by
      intro r hr
      refine e_isWant_yes ew hn hj ⟨fun c => absurd c (by decide), fun _ => ⟨hvi, ?_⟩⟩
      rw [ej]
      exact ⟨fun c => by rw [if_neg c] at hr; exact hr, fun c => by rw [if_pos c] at hr; exact hr⟩
    rcases isBit_cases w with hw1 | hw0
    · refine e_isBit_yes hw1 ⟨fun c => absurd c (by decide), fun _ => ?_⟩
      unfold fX5_isWithin
      by_cases hi : ∃ t, 0 ≤ t ∧ t ≤ 7 ∧ i = nI t
      · obtain ⟨ti, -, hti, e⟩ := hi
        subst e
        refine wc_yes (lo := 0) (hi := 7) (by omega) hti (by omega) ⟨fun c => absurd c (by decide), fun _ => ?_⟩
        by_cases ho : ∃ t, 0 ≤ t ∧ t ≤ 7 ∧ o = nI t
        · obtain ⟨to, -, hto, e⟩ := ho
          subst e
          have et : ((8 : Int32) * nI ti) + nI to = nI (8 * ti + to) := by
            show nI 8 * nI ti + nI to = _
            rw [pk_mul, nI_add]
          have val : ∀ E : Int64, ((E >>> ((nI (8 * ti + to)).toInt64 &&& 63)) &&& (1 : Int64)).toInt32 = if tb E (8 * ti + to) then 1 else 0 := by
            intro E
            rw [land1, lsshr_tb (by omega)]
            cases tb E (8 * ti + to) <;> rfl
          refine wc_yes (lo := 0) (hi := 7) (by omega) hto (by omega) ⟨fun _ => ?_, fun c => absurd c (by decide)⟩
          have six : ∀ {r : Int32} {k2 : Int32}, (w = 0 ∨ (w = 1 ∧ k2 = 1)) → (k2 = 0 ∨ k2 = 1) → r = (if w = 0 then (if tb (S.2.2.2 5 j) (8 * ti + to) then 1 else 0) else (if tb (S.2.2.2 6 j) (8 * ti + to) then 1 else 0)) → fX6_holds_24 N S (nI j) w (nI ti) (nI to) w 0 k2 (fun r2 => r = r2 ∧ Inv sb lw st sp sd ss sy si lp pf S) := by
            intro r k2 hw hk hr
            unfold fX6_holds_24 fX6_within
            refine wi_yes ?_ ?_ ⟨fun c => absurd c (by decide), fun _ => wc_yes (lo := 0) (hi := 7) (by omega) hti (by omega) ⟨fun c => absurd c (by decide), fun _ => wc_yes (lo := 0) (hi := 7) (by omega) hto (by omega) ⟨fun _ => ?_, fun c => absurd c (by decide)⟩⟩⟩
            · rcases hw with rfl | ⟨rfl, rfl⟩ <;> decide
            · rcases hw with rfl | ⟨rfl, rfl⟩
              · rcases hk with rfl | rfl <;> decide
              · decide
            · unfold fX6_holds_72
              rw [et, val, val, ej]
              refine ⟨fun c => ⟨hvi, ?_, keep⟩, fun c => ⟨hvi, ?_, keep⟩⟩
              · rw [if_neg c] at hr
                exact hr
              · rw [if_pos c] at hr
                exact hr
          have five : ∀ {r : Int32 → Prop}, r (if w = 0 then (if tb (S.2.2.2 5 j) (8 * ti + to) then 1 else 0) else (if tb (S.2.2.2 6 j) (8 * ti + to) then 1 else 0)) → fX5_holds_57 N sb lw lp pf w (nI ti) (nI to) (ad j) r := by
            intro r hr
            unfold fX5_holds_57 fX5_holds_74
            rw [et]
            refine ⟨fun c => ⟨a2, e_has (by omega) (e_bit ?_)⟩, fun c => ⟨a2, e_has (by omega) (e_bit ?_)⟩⟩
            · rw [if_neg c] at hr
              rw [b4]
              exact hr
            · rw [if_pos c] at hr
              rw [b3]
              exact hr
          refine ⟨fun c => five (start ?_), fun c => ⟨a2, fun c2 => five (start ?_), fun c2 => start ?_⟩⟩
          · refine six (Or.inl (hw1.resolve_right c)) ?_ rfl
            by_cases q : S.2.1 3 j = 0
            · rw [if_pos q]; exact Or.inl rfl
            · rw [if_neg q]; exact Or.inr rfl
          · rw [b1] at c2
            rw [if_neg c2]
            exact six (Or.inr ⟨c, rfl⟩) (Or.inr rfl) rfl
          · rw [b1] at c2
            rw [if_pos c2]
            subst c
            unfold fX6_holds_24 fX6_within
            exact wi_no (Or.inr (by decide)) ⟨fun _ => ⟨rfl, keep⟩, fun c => absurd rfl c⟩
        · refine wc_no (lo := 0) (hi := 7) (by omega) (by omega) ho ⟨fun c => absurd rfl c, fun _ => start ?_⟩
          unfold fX6_holds_24 fX6_within
          by_cases q : w < 0 ∨ (if S.2.1 3 j = 0 then (0 : Int32) else 1) < w
          · exact wi_no q ⟨fun _ => ⟨rfl, keep⟩, fun c => absurd rfl c⟩
          · refine wi_yes (fun c => q (Or.inl c)) (fun c => q (Or.inr c)) ⟨fun c => absurd c (by decide), fun _ => wc_yes (lo := 0) (hi := 7) (by omega) hti (by omega) ⟨fun c => absurd c (by decide), fun _ => ?_⟩⟩
            exact wc_no (lo := 0) (hi := 7) (by omega) (by omega) ho ⟨fun c => absurd rfl c, fun _ => ⟨rfl, keep⟩⟩
      · refine wc_no (lo := 0) (hi := 7) (by omega) (by omega) hi ⟨fun _ => start ?_, fun c => absurd rfl c⟩
        unfold fX6_holds_24 fX6_within
        by_cases q : w < 0 ∨ (if S.2.1 3 j = 0 then (0 : Int32) else 1) < w
        · exact wi_no q ⟨fun _ => ⟨rfl, keep⟩, fun c => absurd rfl c⟩
        · refine wi_yes (fun c => q (Or.inl c)) (fun c => q (Or.inr c)) ⟨fun c => absurd c (by decide), fun _ => ?_⟩
          exact wc_no (lo := 0) (hi := 7) (by omega) (by omega) hi ⟨fun _ => ⟨rfl, keep⟩, fun c => absurd rfl c⟩
    · refine e_isBit_no hw0 ⟨fun _ => start ?_, fun c => absurd rfl c⟩
      unfold fX6_holds_24
      by_cases q : S.2.1 3 j = 0
      · rw [if_pos q]
        unfold fX6_within
        refine wc_no (lo := 0) (hi := 0) (by omega) (by omega) (fun ⟨t, _, h2, h3⟩ => ?_) ⟨fun _ => ⟨rfl, keep⟩, fun c => absurd rfl c⟩
        rw [show t = 0 by omega] at h3
        exact hw0.1 h3
      · rw [if_neg q]
        exact e_w01_no hw0 ⟨fun _ => ⟨rfl, keep⟩, fun c => absurd rfl c⟩
  · refine e_lawOf_no ec hn hv ⟨fun _ => ?_, fun q e => by cases e⟩
    exact e_isWant_no ew hn hv ⟨fun _ => ⟨rfl, keep⟩, fun c => absurd rfl c⟩
end MEMBERS
