/-! quarrel: both sides -/
section QUARREL
variable {N : Nat} {sb : RS} {lw : Nat → Option Nat} {st sp sd sd' ss sy : RS} {si : Nat → Option Nat} {lp : List Nat} {pf : Nat → RS} {S S' : RS}
theorem e_picked {set n pick : Nat} {Q : Int32 → Prop} (hN : 100 ≤ N) (ec : sb.1 2 = nI n) (hn : n ≤ 20) (hp : pick < 2 ^ rkn set n) (h : ∀ part, sub part set → part < 2 ^ n → pkn set part n = pick → Q (nI part)) : fX5_picked N sb (nI set) (nI (rkn set n)) (nI pick) Q := by
  unfold fX5_picked
  refine nm_e ?_
  have hr : rkn set n ≤ 20 := Nat.le_trans (rkn_le _ _) hn
  have mono : ∀ w, w ≤ n → rkn set w ≤ rkn set n := fun w hw => fb_ct_mono _ hw
  have key : ∀ (f w X : Nat), w ≤ n → n - w < f → X < 2 ^ w → sub X set → pkn set X w = pick / 2 ^ (rkn set n - rkn set w) → fX5_picked_11 N sb (nI set) (nI pick) (fun x13 => Q x13) Q f (nI X) (nI (rkn set n - rkn set w) - 1) (nI w) := by
    intro f
    induction f with
    | zero => intro w X _ hf; omega
    | succ f ih =>
      intro w X hw hf hX hs he
      by_cases z : w = n
      · subst z
        rw [Nat.sub_self, Nat.pow_zero, Nat.div_one] at he
        exact lp_end ec (h X hs hX he)
      · refine lp_in ec (by omega) (by omega) (e_isIn (by omega) ?_)
        rw [bt_nI (by omega)]
        have hX' : X < 2 ^ (w + 1) := by rw [Nat.pow_succ]; omega
        have hXw : X.testBit w = false := Nat.testBit_lt_two_pow hX
        refine sel (fun cb => ?_) (fun cb => nm_r (nI_1 w) ?_)
        · have hlt : rkn set w < rkn set n := by
            have := mono (w + 1) (by omega)
            rw [rkn_s, cb] at this
            simp only [if_true] at this
            omega
          obtain ⟨k, hk⟩ : ∃ k, rkn set n - rkn set w = k + 1 := ⟨rkn set n - rkn set w - 1, by omega⟩
          have hk' : rkn set n - rkn set (w + 1) = k := by
            rw [rkn_s, cb]
            simp only [if_true]
            omega
          rw [hk] at he ⊢
          have hh : pick / 2 ^ k = 2 * (pick / 2 ^ (k + 1)) + (if pick.testBit k then 1 else 0) := by
            rw [Nat.pow_succ, ← Nat.div_div_eq_div_mul, Nat.testBit_eq_decide_div_mod_eq]
            by_cases z1 : pick / 2 ^ k % 2 = 1
            · rw [decide_eq_true z1]
              simp only [if_true]
              omega
            · rw [decide_eq_false z1]
              simp only [Bool.false_eq_true, if_false]
              omega
          have edec : nI k + (-1) = nI k - 1 := (Int32.sub_eq_add_neg _ _).symm
          rw [show nI (k + 1) - 1 = nI k by rw [← nI_1]; exact Int32.add_sub_cancel _ _]
          refine e_isIn (by omega) ?_
          rw [bt_nI (by omega)]
          refine sel (fun cp => ?_) (fun cp => ?_)
          · rw [shl_1 (by omega), fa_or]
            refine nm_e (nm_r edec (nm_r (nI_1 w) ?_))
            have go := ih (w + 1) (X ||| 2 ^ w) (by omega) (by omega) (Nat.or_lt_two_pow hX' (Nat.pow_lt_pow_right (by omega) (by omega))) ?_ ?_
            · rw [hk'] at go
              exact go
            · intro j hj
              rw [Nat.testBit_or, Nat.testBit_two_pow] at hj
              by_cases zj : w = j
              · subst zj
                exact cb
              · rw [decide_eq_false zj, Bool.or_false] at hj
                exact hs j hj
            · rw [hk', hh, cp, pkn_s, cb, ← he, pkn_cong (a := X ||| 2 ^ w) (b := X) w (fun j hj => by rw [Nat.testBit_or, Nat.testBit_two_pow, decide_eq_false (by omega), Bool.or_false]), show (X ||| 2 ^ w).testBit w = true by rw [Nat.testBit_or, Nat.testBit_two_pow]; simp]
              rfl
          · refine nm_r edec (nm_r (nI_1 w) ?_)
            have go := ih (w + 1) X (by omega) (by omega) hX' hs ?_
            · rw [hk'] at go
              exact go
            · rw [hk', hh, cp, pkn_s, cb, ← he, hXw]
              rfl
        · have hk' : rkn set (w + 1) = rkn set w := by
            rw [rkn_s, cb]
            rfl
          have go := ih (w + 1) X (by omega) (by omega) hX' hs ?_
          · rw [hk'] at go
            exact go
          · rw [hk', pkn_s, cb]
            exact he
  have := key N 0 0 (by omega) (by omega) (by decide) (fun j hj => by rw [Nat.zero_testBit] at hj; cases hj) (by
    show 0 = pick / 2 ^ (rkn set n - 0)
    rw [Nat.sub_zero, Nat.div_eq_of_lt hp])
  exact this
theorem sub_lt {a set n : Nat} (h : sub a set) (hs : set < 2 ^ n) : a < 2 ^ n := Nat.lt_of_le_of_lt (sub_le h) hs
theorem pcn_rkn {a n : Nat} (h : a < 2 ^ n) (hn : n ≤ 20) : pcn a = rkn a n := by rw [pcn_mem h hn, mem_len]
theorem pkn_pcn {set part n : Nat} (h : sub part set) (hs : set < 2 ^ n) (hn : n ≤ 20) : pcn (pkn set part n) = pcn part := by
  have hr : rkn set n ≤ 20 := Nat.le_trans (rkn_le _ _) hn
  rw [pcn_rkn (sub_lt h hs) hn, ← pkn_pc h n]
  unfold pcn
  rw [← cz_fb]
  obtain ⟨c, hc⟩ : ∃ c, 20 = rkn set n + c := ⟨20 - rkn set n, by omega⟩
  rw [hc]
  exact cz_add c (fun q hq => Nat.testBit_lt_two_pow (Nat.lt_of_lt_of_le (pkn_lt set part n) (Nat.pow_le_pow_right (by omega) hq)))
theorem pkn_eq {set a b n : Nat} (ha : sub a set) (hb : sub b set) (hs : set < 2 ^ n) (h : pkn set a n = pkn set b n) : a = b := by
  refine Nat.eq_of_testBit_eq (fun j => ?_)
  cases hj : set.testBit j with
  | true =>
    by_cases z : j < n
    · exact pkn_inj n h j z hj
    · rw [Nat.testBit_lt_two_pow (Nat.lt_of_lt_of_le hs (Nat.pow_le_pow_right (by omega) (by omega)))] at hj
      cases hj
  | false =>
    have no : ∀ x, sub x set → x.testBit j = false := fun x hx => by
      cases hxj : x.testBit j with
      | false => rfl
      | true => rw [hx j hxj] at hj; cases hj
    rw [no a ha, no b hb]
/-- the best quarrel -/
def Best (Ob : Nat → Prop) (set n b : Nat) : Prop := sub b set ∧ 0 < b ∧ ¬ Ob b ∧ ∀ q, sub q set → 0 < q → ¬ Ob q → AH set n b q
theorem Best_1 {Ob : Nat → Prop} {set n a b : Nat} (hs : set < 2 ^ n) (ha : Best Ob set n a) (hb : Best Ob set n b) : a = b := by
  have h1 := ha.2.2.2 b hb.1 hb.2.1 hb.2.2.1
  have h2 := hb.2.2.2 a ha.1 ha.2.1 ha.2.2.1
  unfold AH at h1 h2
  exact pkn_eq ha.1 hb.1 hs (by omega)
theorem pcn_0 {a n : Nat} (h : a < 2 ^ n) (hn : n ≤ 20) (h0 : 0 < a) : 0 < pcn a := by
  refine Nat.pos_of_ne_zero (fun z => ?_)
  rw [pcn_rkn h hn] at z
  have : ∀ m, rkn a m = 0 → ∀ j, j < m → a.testBit j = false := by
    intro m
    induction m with
    | zero => intro _ j hj; omega
    | succ m ih =>
      intro e j hj
      rw [rkn_s] at e
      cases hb : a.testBit m with
      | true => rw [hb] at e; simp at e
      | false =>
        by_cases zj : j = m
        · subst zj
          exact hb
        · exact ih (by omega) j (by omega)
  have e0 : a = 0 := Nat.eq_of_testBit_eq (fun j => by
    rw [Nat.zero_testBit]
    by_cases hj : j < n
    · exact this n z j hj
    · exact Nat.testBit_lt_two_pow (Nat.lt_of_lt_of_le h (Nat.pow_le_pow_right (by omega) (by omega))))
  omega
theorem e_first {n set size : Nat} {ad : Nat → Nat} {wa : Int32} {so nu : Nat → Int32} {fi se : Nat → Int64} {byt ow wo ea re gu le : Nat → Int32} {Q : Int32 → RS → Prop} (hN : 1100 ≤ N) (hW : IW n ad (sb.1 2) lw lp pf wa so nu fi se byt ow wo ea re gu le) (hs : set < 2 ^ n) (h5 : rkn set n ≤ 5) (hz : 0 < size) (hz5 : size ≤ 5) (h0 : (∀ q, sub q set → pcn q = size → Safe ((mem q n).map (lawL so nu fi se)) 0) → ∀ sd', Q 0 sd') (h1 : ∀ part, sub part set → pcn part = size → ¬ Safe ((mem part n).map (lawL so nu fi se)) 0 → (∀ q, sub q set → pcn q = size → ¬ Safe ((mem q n).map (lawL so nu fi se)) 0 → pkn set q n ≤ pkn set part n) → ∀ sd', Q (nI part) sd') : fX5_firstQuarrelOf N sb lw sd lp pf (nI set) (nI (rkn set n)) (nI size) Q := by
  obtain ⟨hn, ec, -, -, -, -⟩ := id hW
  unfold fX5_firstQuarrelOf
  rw [shl_1 (by omega), show (1 : Int32) = nI 1 from rfl, pk_sub (Nat.two_pow_pos _)]
  refine nm_e ?_
  have h32 : 2 ^ rkn set n ≤ 32 := Nat.le_trans (Nat.pow_le_pow_right (by omega) h5) (by decide)
  have key : ∀ (w pick : Nat) (sd1 : RS), pick < 2 ^ rkn set n → pick < w → (∀ q, sub q set → pcn q = size → pick < pkn set q n → Safe ((mem q n).map (lawL so nu fi se)) 0) → fX5_firstQuarrelOf_7 N sb lw lp pf (nI set) (nI (rkn set n)) (nI size) (fun sd11 => Q 0 sd11) Q w (nI pick) sd1 := by
    intro w
    induction w with
    | zero => intro pick sd1 _ hw; omega
    | succ w ih =>
      intro pick sd1 hp hw hq
      cases pick with
      | zero =>
        refine ⟨fun _ => h0 (fun q h1 h2 => hq q h1 h2 (Nat.pos_of_ne_zero (fun z => ?_))) sd1, fun c => absurd (by decide) c⟩
        have := pkn_pcn h1 hs hn
        rw [z, h2] at this
        have e : pcn 0 = 0 := by decide
        omega
      | succ pick =>
        refine ⟨fun c => absurd (show nI (pick + 1) ≤ nI 0 from c) (nI_ge (by omega) (by omega)), fun _ => e_bitCount (by omega) ?_⟩
        have edec : nI (pick + 1) + (-1) = nI pick := by
          rw [← Int32.sub_eq_add_neg, ← nI_1]
          exact Int32.add_sub_cancel _ _
        have cp : pcn (pick + 1) ≤ 20 := fb_ct_le _ _
        refine ⟨fun c => nm_r edec (ih pick sd1 (by omega) (by omega) (fun q h1 h2 h3 => ?_)), fun c => ?_⟩
        · by_cases z : pkn set q n = pick + 1
          · have := pkn_pcn h1 hs hn
            rw [z, h2] at this
            exact absurd (by rw [this]) c
          · exact hq q h1 h2 (by omega)
        · have c := (nI_eq (by omega) (by omega)).mp c
          refine e_picked (by omega) ec hn hp (fun part p1 p2 p3 => ?_)
          have pp : pcn part = size := by
            have := pkn_pcn p1 hs hn
            rw [p3] at this
            omega
          refine e_isObeyable hN hW (by rw [mem_len]; exact Nat.le_trans (rkn_sub p1 n) h5) (fun sd2 r hr _ _ hRk => ?_)
          by_cases zr : r = 0
          · subst zr
            refine ⟨fun _ => nm_r edec (ih pick sd2 (by omega) (by omega) (fun q h1 h2 h3 => ?_)), fun c => absurd c (by decide)⟩
            by_cases z : pkn set q n = pick + 1
            · rw [pkn_eq h1 p1 hs (by rw [z, p3])]
              exact Rk_0 hRk
            · exact hq q h1 h2 (by omega)
          · rw [if_neg zr]
            refine ⟨fun c => absurd rfl c, fun _ => h1 part p1 pp (fun c => absurd (Rk_p hRk zr).1 (c r)) (fun q q1 q2 q3 => ?_) sd2⟩
            rw [p3]
            refine Classical.byContradiction (fun c => q3 (hq q q1 q2 (by omega)))
  exact key N _ sd (by have := Nat.two_pow_pos (rkn set n); omega) (by omega) (fun q _ _ h3 => by
    have := pkn_lt set q n
    omega)
theorem e_can6 {n set : Nat} {ad : Nat → Nat} {cnt : Int32} {byt ow wo ea re gu le : Nat → Int32} {Q : Int32 → RS → Prop} (hN : 1100 ≤ N) (hW : IW n ad cnt lw lp pf (S.1 13) (S.2.1 3) (S.2.1 4) (S.2.2.2 5) (S.2.2.2 6) byt ow wo ea re gu le) (h0 : 0 < set) (hs : set < 2 ^ n) (h5 : (mem set n).length ≤ 5) (hy : Safe (LL S set n) 0 → ∀ S', gf S S' → Q 1 S') (hx : ¬ Safe (LL S set n) 0 → ∀ S', gf S S' → Q 0 S') : fX6_can N S (nI set) Q := by
  unfold fX6_can
  refine e_isSet6_yes (lim := 5) (by omega) hW.2.2.1 hW.1 (by omega) h0 hs h5 ⟨fun _ => e_tkSafe hN hW h5 (fun S4 g4 _ _ z4 => ⟨vp_in_nI (n := 0) (by omega) (by omega), fun c => hx ?_ S4 g4, fun c => hy ?_ S4 g4⟩), fun c => absurd c (by decide)⟩
  · exact fun z => (z4 0 (Nat.pow_pos (by omega))).mpr z c
  · exact (z4 0 (Nat.pow_pos (by omega))).mp c
theorem e_quarrel6 {n set : Nat} {ad : Nat → Nat} {cnt : Int32} {byt ow wo ea re gu le : Nat → Int32} {Q : Int32 → RS → Prop} (hN : 1100 ≤ N) (hW : IW n ad cnt lw lp pf (S.1 13) (S.2.1 3) (S.2.1 4) (S.2.2.2 5) (S.2.2.2 6) byt ow wo ea re gu le) (h0 : 0 < set) (hs : set < 2 ^ n) (h5 : (mem set n).length ≤ 5) (h1 : ∀ b S', gf S S' → Best (fun q => Safe (LL S q n) 0) set n b → Q (nI b) S') (h2 : (∀ q, sub q set → 0 < q → Safe (LL S q n) 0) → ∀ S', gf S S' → Q (-4) S') : fX6_quarrel N S (nI set) Q := by
  have hn := hW.1
  have hp20 := p20 hn
  have h5' : rkn set n ≤ 5 := by rw [← mem_len]; exact h5
  unfold fX6_quarrel
  refine e_isSet6_yes (lim := 5) (by omega) hW.2.2.1 hn (by omega) h0 hs h5 ⟨fun _ => ?_, fun c => absurd c (by decide)⟩
  have key : ∀ (w part : Nat) (best : Int32) (s : RS), gf S s → sub part set → cmn set part n < w → ((best = -4 ∧ ∀ q, sub q set → part < q → Safe (LL S q n) 0) ∨ ∃ b, best = nI b ∧ sub b set ∧ part < b ∧ ¬ Safe (LL S b n) 0 ∧ ∀ q, sub q set → part < q → ¬ Safe (LL S q n) 0 → AH set n b q) → fX6_quarrel_16 N (nI set) (fun x11 S12 => Q x11 S12) Q w best (nI part) s := by
    intro w
    induction w with
    | zero => intro part best s _ _ hw; omega
    | succ w ih =>
      intro part best s g hp hw hI
      by_cases z : part = 0
      · subst z
        refine ⟨fun _ => ?_, fun c => absurd (by decide) c⟩
        rcases hI with ⟨e, hI⟩ | ⟨b, e, b1, b2, b3, b4⟩
        · rw [e]
          exact h2 hI s g
        · rw [e]
          exact h1 b s g ⟨b1, b2, b3, b4⟩
      · have lp' := sub_le hp
        refine ⟨fun c => absurd (show nI part ≤ nI 0 from c) (nI_ge (by omega) (by omega)), fun _ => ?_⟩
        have hW' : IW n ad cnt lw lp pf (s.1 13) (s.2.1 3) (s.2.1 4) (s.2.2.2 5) (s.2.2.2 6) byt ow wo ea re gu le := by
          rw [g.1 13 (by decide) (by decide) (by decide), g.2.1 3 (by decide) (by decide) (by decide) (by decide) (by decide), g.2.1 4 (by decide) (by decide) (by decide) (by decide) (by decide), g.2.2]
          exact hW
        have eL : LL s part n = LL S part n := by
          unfold LL
          rw [g.2.1 3 (by decide) (by decide) (by decide) (by decide) (by decide), g.2.1 4 (by decide) (by decide) (by decide) (by decide) (by decide), g.2.2]
        have nxt : ∀ (best' : Int32) (s' : RS), gf S s' → ((best' = -4 ∧ ∀ q, sub q set → (part < q ∨ q = part) → Safe (LL S q n) 0) ∨ ∃ b, best' = nI b ∧ sub b set ∧ (part < b ∨ b = part) ∧ ¬ Safe (LL S b n) 0 ∧ ∀ q, sub q set → (part < q ∨ q = part) → ¬ Safe (LL S q n) 0 → AH set n b q) → fX6_quarrel_42 N s' (nI set) best' (nI part) (fun v2 v3 S => fX6_quarrel_16 N (nI set) (fun x11 S12 => Q x11 S12) Q w v2 v3 S) (fun x11 S12 => Q x11 S12) Q := by
          intro best' s' g' hI'
          unfold fX6_quarrel_42
          rw [show (1 : Int32) = nI 1 from rfl, pk_sub (by omega), fa_and]
          refine nm_e ?_
          have hsn : sub ((part - 1) &&& set) set := fun j hj => by
            rw [Nat.testBit_and] at hj
            cases hb : set.testBit j with
            | true => rfl
            | false => rw [hb, Bool.and_false] at hj; cases hj
          have hle : (part - 1) &&& set ≤ part - 1 := Nat.and_le_left
          have hc : cmn set ((part - 1) &&& set) n < cmn set part n := by
            refine cmn_mono hp n ?_
            rw [Nat.mod_eq_of_lt (sub_lt hsn hs), Nat.mod_eq_of_lt (sub_lt hp hs)]
            omega
          have cov : ∀ q, sub q set → (part - 1) &&& set < q → part < q ∨ q = part := by
            intro q q1 q2
            refine Classical.byContradiction (fun c => ?_)
            have := sub_next part q set hp q1 (by omega)
            omega
          refine ih ((part - 1) &&& set) best' s' g' hsn (by omega) ?_
          rcases hI' with ⟨e, hI'⟩ | ⟨b, e, b1, b2, b3, b4⟩
          · exact Or.inl ⟨e, fun q q1 q2 => hI' q q1 (cov q q1 q2)⟩
          · exact Or.inr ⟨b, e, b1, by omega, b3, fun q q1 q2 q3 => b4 q q1 (cov q q1 q2) q3⟩
        have can : (¬ Safe (LL S part n) 0 → ∀ q, sub q set → part < q → ¬ Safe (LL S q n) 0 → AH set n part q) → fX6_quarrel_32 N s (nI set) best (nI part) (fun v2 v3 S => fX6_quarrel_16 N (nI set) (fun x11 S12 => Q x11 S12) Q w v2 v3 S) (fun x11 S12 => Q x11 S12) Q := by
          intro hah
          unfold fX6_quarrel_32
          refine e_can6 hN hW' (by omega) (sub_lt hp hs) (by rw [mem_len]; exact Nat.le_trans (rkn_sub hp n) h5') (fun hs' s' g' => ⟨fun _ => nxt best s' (gf_t g g') ?_, fun c => absurd c (by decide)⟩) (fun hs' s' g' => ⟨fun c => absurd rfl c, fun _ => nxt (nI part) s' (gf_t g g') ?_⟩)
          · rw [eL] at hs'
            rcases hI with ⟨e, hI⟩ | ⟨b, e, b1, b2, b3, b4⟩
            · exact Or.inl ⟨e, fun q q1 q2 => q2.elim (fun c => hI q q1 c) (fun c => by rw [c]; exact hs')⟩
            · exact Or.inr ⟨b, e, b1, Or.inl b2, b3, fun q q1 q2 q3 => q2.elim (fun c => b4 q q1 c q3) (fun c => absurd hs' (by rw [← c]; exact q3))⟩
          · rw [eL] at hs'
            refine Or.inr ⟨part, rfl, hp, Or.inr rfl, hs', fun q q1 q2 q3 => q2.elim (fun c => hah hs' q q1 c q3) (fun c => ?_)⟩
            rw [c]
            exact Or.inr ⟨rfl, Nat.le_refl _⟩
        rcases id hI with ⟨e, hI2⟩ | ⟨b, e, b1, b2, b3, b4⟩
        · subst e
          refine ⟨fun _ => can (fun _ q q1 q2 q3 => absurd (hI2 q q1 q2) q3), fun c => absurd (by decide) c⟩
        · subst e
          have lb := sub_le b1
          refine ⟨fun c => absurd c (nI_pos (by omega)), fun _ => e_comesAhead (by omega) hp b1 hs hn (fun c => ⟨fun c => absurd c (by decide), fun _ => can (fun _ q q1 q2 q3 => ?_)⟩) (fun c => ⟨fun _ => nxt (nI b) s g (Or.inr ⟨b, rfl, b1, Or.inl b2, b3, fun q q1 q2 q3 => q2.elim (fun c => b4 q q1 c q3) (fun cq => by rw [cq]; exact c)⟩), fun c => absurd rfl c⟩)⟩
          have := b4 q q1 q2 q3
          unfold AH at this c ⊢
          omega
  have h32 : 2 ^ rkn set n ≤ 32 := Nat.le_trans (Nat.pow_le_pow_right (by omega) h5') (by decide)
  have := cmn_lt set set n
  exact key N set (-4) S (gf_0 S) (fun j hj => hj) (by omega) (Or.inl ⟨rfl, fun q q1 q2 => absurd (sub_le q1) (by omega)⟩)
theorem l4_of {n : Nat} {ad : Nat → Nat} {cnt wa : Int32} {so nu : Nat → Int32} {fi se : Nat → Int64} {byt ow wo ea re gu le : Nat → Int32} (hW : IW n ad cnt lw lp pf wa so nu fi se byt ow wo ea re gu le) : ∀ w, w < n → l4 (lawL so nu fi se w) := by
  intro w hwn s t z hs hz
  obtain ⟨-, -, -, ⟨-, ⟨m, hm, em⟩, -⟩⟩ := hW.2.2.2.1 w hwn
  have := nx_lt (show (nu w).toNatClampNeg ≤ 3 by rw [em, nI_clamp (by omega)]; exact hm) (show s ≤ 3 by omega) hz
  omega
theorem step_15 (hN : 1100 ≤ N) (h : Inv sb lw st sp sd ss sy si lp pf S) (v : Int32) : cL_15 N sb lw st sp sd ss sy si lp pf S v Inv := by
  have keep := h
  obtain ⟨n, ad, hW, hT, hD, hR, hP, hPl, hTr⟩ := h
  obtain ⟨hn, ec, ew, hl, inj, hz⟩ := id hW
  unfold cL_15 fX5_quarrel
  by_cases hv' : isS n 5 v
  · obtain ⟨set, h0, hs, hl5, rfl⟩ := hv'
    have hp20 := p20 hn
    have h5' : rkn set n ≤ 5 := by rw [← mem_len]; exact hl5
    refine e_isSet5_yes (lim := 5) ec hn (by omega) h0 hs hl5 ⟨fun _ => ?_, fun c => absurd c (by decide)⟩
    refine e_isObeyable hN hW hl5 (fun sd1 r hr _ _ hRk => ?_)
    by_cases zr : r = 0
    · rw [if_pos zr]
      subst zr
      refine ⟨fun c => absurd c (by decide), fun _ => ?_⟩
      have all : ∀ q, sub q set → Safe (LL S q n) 0 := fun q hq => sub_safe hq (l4_of hW) (Rk_0 hRk)
      exact e_quarrel6 hN hW h0 hs hl5 (fun b S1 g1 hb => absurd (all b hb.1) hb.2.2.1) (fun _ S1 g1 => ⟨rfl, Inv_gf keep g1⟩)
    · rw [if_neg zr]
      have hno : ¬ Safe (LL S set n) 0 := fun c => absurd (Rk_p hRk zr).1 (c r)
      have fin : ∀ b, Best (fun q => Safe (LL S q n) 0) set n b → ∀ sd2 : RS, fX6_quarrel N S (nI set) (fun r2 S1 => (nI b = r2 ∧ Inv sb lw st sp sd2 ss sy si lp pf S1)) := by
        intro b hb sd2
        refine e_quarrel6 hN hW h0 hs hl5 (fun b' S1 g1 hb' => ⟨by rw [Best_1 hs hb hb'], Inv_gf keep g1⟩) (fun hall => absurd (hall b hb.1 hb.2.1) hb.2.2.1)
      refine ⟨fun _ => e_bitCount (by omega) ?_, fun c => absurd rfl c⟩
      rw [pcn_rkn hs hn]
      have key : ∀ (w size : Nat) (sd1 : RS), 0 < size → size ≤ rkn set n → rkn set n - size < w → (∀ q, sub q set → 0 < q → pcn q < size → Safe (LL S q n) 0) → fX5_quarrel_29 N sb lw lp pf (nI set) (nI (rkn set n)) (fun sd12 => fX6_quarrel N S (nI set) (fun r2 S1 => (nI set = r2 ∧ Inv sb lw st sp sd12 ss sy si lp pf S1))) (fun r1 sd1 => fX6_quarrel N S (nI set) (fun r2 S1 => (r1 = r2 ∧ Inv sb lw st sp sd1 ss sy si lp pf S1))) w (nI size) sd1 := by
        intro w
        induction w with
        | zero => intro size sd1 _ _ hw; omega
        | succ w ih =>
          intro size sd1 hz1 hz2 hw hq
          by_cases z : size = rkn set n
          · rw [z]
            refine lp_end rfl (fin set ⟨fun j hj => hj, h0, hno, fun q q1 q2 q3 => ?_⟩ sd1)
            have a1 : ¬ pcn q < size := fun c => q3 (hq q q1 q2 c)
            have a2 := pcn_rkn hs hn
            have a3 := pkn_top set q n
            unfold AH
            omega
          · refine lp_in rfl (by omega) (by omega) (e_first hN hW hs h5' hz1 (by omega) (fun hall sd2 => ⟨fun _ => nm_r (nI_1 _) (ih (size + 1) sd2 (by omega) (by omega) (by omega) (fun q q1 q2 q3 => ?_)), fun c => absurd rfl c⟩) (fun part p1 p2 p3 p4 sd2 => ?_))
            · by_cases zq : pcn q = size
              · exact hall q q1 zq
              · exact hq q q1 q2 (by omega)
            · have lp' := sub_le p1
              have pos : 0 < part := by
                refine Nat.pos_of_ne_zero (fun z => ?_)
                rw [z] at p2
                have e : pcn 0 = 0 := by decide
                omega
              refine ⟨fun c => absurd ((nI_eq (b := 0) (by omega) (by omega)).mp c) (by omega), fun _ => fin part ⟨p1, pos, p3, fun q q1 q2 q3 => ?_⟩ sd2⟩
              have a1 : ¬ pcn q < size := fun c => q3 (hq q q1 q2 c)
              unfold AH
              by_cases zq : pcn q = size
              · exact Or.inr ⟨by omega, p4 q q1 zq q3⟩
              · exact Or.inl (by omega)
      have pos : 0 < rkn set n := by rw [← pcn_rkn hs hn]; exact pcn_0 hs hn h0
      exact key N 1 sd1 (by omega) (by omega) (by omega) (fun q q1 q2 q3 => absurd (pcn_0 (sub_lt q1 hs) hn q2) (by omega))
  · refine e_isSet5_no (lim := 5) ec hn (by omega) hv' ⟨fun c => absurd rfl c, fun _ => ?_⟩
    unfold fX6_quarrel
    exact e_isSet6_no (lim := 5) (by omega) ew hn (by omega) hv' ⟨fun c => absurd rfl c, fun _ => ⟨rfl, keep⟩⟩
end QUARREL
