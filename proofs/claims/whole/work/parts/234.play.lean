/-! play, tick, open -/
theorem cz_fb (g : Nat → Bool) : ∀ n, cz g n = fb_ct g n
  | 0 => rfl
  | n + 1 => by rw [cz_s, fb_ct_succ, cz_fb g n]
theorem cz_mono {g : Nat → Bool} {a : Nat} : ∀ {b : Nat}, a ≤ b → cz g a ≤ cz g b
  | 0, h => by rw [show a = 0 by omega]; exact Nat.le_refl _
  | b + 1, h => by
    by_cases z : a = b + 1
    · subst z
      exact Nat.le_refl _
    · rw [cz_s]
      exact Nat.le_trans (cz_mono (by omega)) (Nat.le_add_right _ _)
theorem cz_add {g : Nat → Bool} {a : Nat} : ∀ (b : Nat), (∀ q, a ≤ q → g q = false) → cz g (a + b) = cz g a
  | 0, _ => rfl
  | b + 1, h => by
    rw [← Nat.add_assoc, cz_s, cz_add b h, h (a + b) (by omega)]
    rfl
/-- the byte of an input -/
theorem byteI {O : Int64} {i : Nat} (hi : i < 8) : ∃ a, a < 256 ∧ ((((O.toUInt64 >>> (((8 : Int32) * nI i).toInt64.toUInt64 &&& Int64.toUInt64 63)).toInt64).toInt32) &&& (255 : Int32)) = nI a ∧ ∀ o, o < 8 → a.testBit o = tb O (8 * i + o) := by
  rw [show (8 : Int32) * nI i = nI (8 * i) from pk_mul 8 i]
  have hb : ∀ o, o < 32 → bt (((((O.toUInt64 >>> ((nI (8 * i)).toInt64.toUInt64 &&& Int64.toUInt64 63)).toInt64).toInt32) &&& (255 : Int32))) o = (tb O (8 * i + o) && decide (o < 8)) := by
    intro o ho
    rw [b_and, b_255]
    congr 1
    rw [← lushr_tb (E := O) (t := 8 * i) (i := o) (by omega)]
    unfold bt tb
    rw [Int64.toBitVec_toInt32, BitVec.getLsbD_signExtend, if_pos (by omega), decide_eq_true ho, Bool.true_and]
  obtain ⟨c, hc, ec⟩ := and_some 255 (((O.toUInt64 >>> ((nI (8 * i)).toInt64.toUInt64 &&& Int64.toUInt64 63)).toInt64).toInt32)
  have e : ((((O.toUInt64 >>> ((nI (8 * i)).toInt64.toUInt64 &&& Int64.toUInt64 63)).toInt64).toInt32) &&& (255 : Int32)) = nI c := by
    rw [← ec]
    refine b_ext (fun k hk => ?_)
    rw [b_and, b_and, Bool.and_comm]
    rfl
  refine ⟨c, by omega, e, fun o ho => ?_⟩
  have := hb o (by omega)
  rw [e, bt_nI (by omega), decide_eq_true ho, Bool.and_true] at this
  exact this
theorem e_leastBit {N a : Nat} {Q : Int32 → Prop} (hN : 100 ≤ N) (ha : a < 256) (h0 : 0 < a) (h : ∀ l, l < 8 → a.testBit l = true → (∀ l', l' < l → a.testBit l' = false) → Q (nI l)) : fX5_leastBit N (nI a) Q := by
  have key : ∀ (w l : Nat), l ≤ 8 → 40 - l < w → (∀ l', l' < l → a.testBit l' = false) → fX5_leastBit_2 N (nI a) (Q (-1)) Q w (nI l) := by
    intro w
    induction w with
    | zero => intro l _ hw; omega
    | succ w ih =>
      intro l hl hw hb
      by_cases q : l = 8
      · subst q
        exfalso
        have : a = 0 := Nat.eq_of_testBit_eq (fun k => by
          rw [Nat.zero_testBit]
          by_cases hk : k < 8
          · exact hb k hk
          · exact Nat.testBit_lt_two_pow (Nat.lt_of_lt_of_le ha (Nat.pow_le_pow_right (n := 2) (by omega) (show 8 ≤ k by omega))))
        omega
      · refine lp_in (m := 32) (n := 32) rfl (by omega) (by omega) (e_isIn (by omega) ?_)
        rw [bt_nI (by omega)]
        refine sel (fun c => h l (by omega) c hb) (fun c => nm_r (nI_1 l) (ih (l + 1) (by omega) (by omega) (fun l' hl' => ?_)))
        by_cases z : l' = l
        · subst z
          exact c
        · exact hb l' (by omega)
  exact key N 0 (by omega) (by omega) (fun l hl => absurd hl (by omega))
theorem e_placeAfter {N p t q : Nat} {ls : List Lw} {G : RS} {Q : Int32 → Prop} (hN : 100 ≤ N) (hG : GG ls G) (hp : p < 2 ^ 31) (ht : t < 64) (hg : gst ls p t = some q) (h : Q (nI q)) : fX0_placeAfter N G (nI p) (nI t) Q := by
  obtain ⟨h5, hsz, hmk⟩ := hG
  have key := loop_i (σ := Int32) (fun w i x => fX0_placeAfter_5 N G (nI p) (nI t) (fun x12 => Q x12) Q w x (nI i)) (fun i x => ∃ e, e < 4 ^ i ∧ x = nI e ∧ gst (ls.take i) p t = some e) ls.length ?_ ?_ N 0 0 (by omega) (by omega) ⟨0, by decide, rfl, rfl⟩
  · exact key
  · rintro w x ⟨e, he, ex, ge⟩
    refine lp_end hsz ?_
    rw [List.take_length, hg] at ge
    cases ge
    rw [ex]
    exact h
  · rintro w i x hi ⟨e, he, ex, ge⟩ ih
    obtain ⟨l, hl, et, el⟩ := take_in (ls := ls) (i := i) (by omega)
    obtain ⟨A, B, hA, hB, e3, e4, hx⟩ := hmk i l hl (p / 4 ^ i % 4) (Nat.mod_lt _ (by omega))
    refine lp_in hsz (by omega) hi ?_
    rw [st_ix hp (by omega)]
    have hm4 : p / 4 ^ i % 4 < 4 := Nat.mod_lt _ (by omega)
    refine nm_e ⟨vp_in_nI (by omega) (by omega), e_has ht ?_⟩
    rw [nI_clamp (by omega), e3, e4]
    have hsome : (gst (ls.take (i + 1)) p t).isSome = true := gst_take (i + 1) (by rw [hg]; rfl)
    rw [et, gst_snoc, el, ge, hx t ht] at hsome
    have e4' : (4 : Nat) ^ i = 2 ^ (2 * i) := by rw [Nat.pow_mul]
    have fin : ∀ C, C < 4 → nx l (p / 4 ^ i % 4) t = some C → ∃ e', e' < 4 ^ (i + 1) ∧ nI e ||| nI (C * 4 ^ i) = nI e' ∧ gst (ls.take (i + 1)) p t = some e' := by
      intro C hC hnx
      refine ⟨e + 4 ^ i * C, ?_, ?_, ?_⟩
      · rw [Nat.pow_succ]
        have : 4 ^ i * C ≤ 4 ^ i * 3 := Nat.mul_le_mul_left _ (by omega)
        omega
      · rw [fa_or, Nat.mul_comm C, Nat.or_comm, e4', ← Nat.two_pow_add_eq_or_of_lt (by rw [← e4']; exact he), Nat.add_comm]
      · rw [et, gst_snoc, el, ge, hnx]
    have hx' := hx t ht
    cases hbr : tb (G.2.2.2 1 (4 * i + p / 4 ^ i % 4)) t with
    | true =>
      rw [hbr] at hsome
      simp at hsome
    | false =>
      rw [hbr] at hx'
      cases htu : tb (G.2.2.2 2 (4 * i + p / 4 ^ i % 4)) t with
      | false =>
        rw [htu] at hx'
        refine ⟨fun _ => ⟨vp_in_nI (by omega) (by omega), nm_e (nm_r (nI_1 i) (ih _ ?_))⟩, fun c => absurd rfl c⟩
        rw [ex]
        exact fin B hB hx'
      | true =>
        rw [htu] at hx'
        refine ⟨fun c => absurd c (by decide), fun _ => ⟨vp_in_nI (by omega) (by omega), nm_e (nm_r (nI_1 i) (ih _ ?_))⟩⟩
        rw [ex]
        exact fin A hA hx'
/-- an output that keeps all safe -/
def opn (ls : List Lw) (p t : Nat) : Prop := ∃ q, gst ls p t = some q ∧ Safe ls q
noncomputable def opb (ls : List Lw) (p i o : Nat) : Bool := @decide (opn ls p (8 * i + o)) (Classical.propDecidable _)
theorem opb_t {ls : List Lw} {p i o : Nat} : opb ls p i o = true ↔ opn ls p (8 * i + o) := by
  unfold opb
  exact @decide_eq_true_iff _ (Classical.propDecidable _)
theorem opb_f {ls : List Lw} {p i o : Nat} : opb ls p i o = false ↔ ¬ opn ls p (8 * i + o) := by
  unfold opb
  exact @decide_eq_false_iff_not _ (Classical.propDecidable _)
section PLAY
variable {N : Nat} {sb : RS} {lw : Nat → Option Nat} {st sp sd sd' ss sy : RS} {si : Nat → Option Nat} {lp : List Nat} {pf : Nat → RS} {S S' : RS}
theorem e_openFor {n set p i : Nat} {ad : Nat → Nat} {cnt : Int32} {byt ow wo ea re gu le : Nat → Int32} {Q : Int32 → RS → Prop} (hN : 1100 ≤ N) (hW : IW n ad cnt lw lp pf (S.1 13) (S.2.1 3) (S.2.1 4) (S.2.2.2 5) (S.2.2.2 6) byt ow wo ea re gu le) (h5 : (mem set n).length ≤ 5) (hi : i < 8) (hp : p < 1024) (e22 : S.1 22 = nI set) (e23 : S.1 23 = nI p) (hb : ∀ t, t < 64 → ∀ q, gst (LL S set n) p t = some q → q < 4 ^ (mem set n).length) (h : ∀ S', gf S S' → ST (LL S set n) S' → ((0 < cz (opb (LL S set n) p i) 8 ∧ ∃ l, l < 8 ∧ S'.1 38 = nI l ∧ opb (LL S set n) p i l = true ∧ ∀ l', l' < l → opb (LL S set n) p i l' = false) ∨ cz (opb (LL S set n) p i) 8 = 0) → Q (nI (cz (opb (LL S set n) p i) 8)) S') : fX6_openFor N S (nI i) Q := by
  unfold fX6_openFor fX6_takePlay
  rw [e22]
  refine e_tkSafe hN hW h5 (fun S1 g1 k1 t1 z1 => nm_e ?_)
  have hX := p4 h5
  have key : ∀ (w o c : Nat) (s : RS), o ≤ 8 → o < w → gf S s → ST (LL S set n) s → (∀ q, q < 4 ^ (mem set n).length → (¬ s.2.1 19 q = 0 ↔ Safe (LL S set n) q)) → c + cz (opb (LL S set n) p i) o = cz (opb (LL S set n) p i) 8 → ((0 < c ∧ ∃ l, o ≤ l ∧ l < 8 ∧ s.1 38 = nI l ∧ opb (LL S set n) p i l = true ∧ ∀ l', o ≤ l' → l' < l → opb (LL S set n) p i l' = false) ∨ c = 0) → fX6_openFor_14 N (nI i) (fun x13 S14 => Q x13 S14) Q w (nI c) (nI o - 1) s := by
    intro w
    induction w with
    | zero => intro o c s _ hw; omega
    | succ w ih =>
      intro o c s ho hw hg hT hz hc hl
      cases o with
      | zero =>
        refine ⟨fun _ => ?_, fun c => absurd (by decide) c⟩
        have ec : c = cz (opb (LL S set n) p i) 8 := by
          rw [show cz (opb (LL S set n) p i) 0 = 0 from rfl] at hc
          omega
        subst ec
        refine h s hg hT ?_
        rcases hl with ⟨l0, l, -, l1, l2, l3, l4⟩ | l0
        · exact Or.inl ⟨l0, l, l1, l2, l3, fun l' hl' => l4 l' (by omega) hl'⟩
        · exact Or.inr l0
      | succ o =>
        rw [show nI (o + 1) - 1 = nI o by rw [← nI_1]; exact Int32.add_sub_cancel _ _]
        refine ⟨fun c => absurd c (nI_pos (by omega)), fun _ => ?_⟩
        rw [show s.1 23 = nI p from (hg.1 23 (by decide) (by decide) (by decide)).trans e23, show (8 : Int32) * nI i = nI (8 * i) from pk_mul 8 i, nI_add]
        refine e_behind (by omega) hT (by omega) (by omega) ?_
        have edec : nI o + -1 = nI o - 1 := (Int32.sub_eq_add_neg _ _).symm
        rw [cz_s] at hc
        have no : opb (LL S set n) p i o = false → fX6_openFor_14 N (nI i) (fun x13 S14 => Q x13 S14) Q w (nI c) (nI o - 1) s := by
          intro hf
          rw [hf] at hc
          refine ih o c s (by omega) (by omega) hg hT hz hc ?_
          rcases hl with ⟨l0, l, l5, l1, l2, l3, l4⟩ | l0
          · refine Or.inl ⟨l0, l, by omega, l1, l2, l3, fun l' h1 h2 => ?_⟩
            by_cases z : l' = o
            · subst z
              exact hf
            · exact l4 l' (by omega) h2
          · exact Or.inr l0
        cases hgs : gst (LL S set n) p (8 * i + o) with
        | none =>
          refine ⟨fun _ => nm_r edec (no (opb_f.mpr ?_)), fun c => absurd (by decide) c⟩
          rintro ⟨q, e, _⟩
          rw [hgs] at e
          cases e
        | some q =>
          have hq := hb _ (by omega) q hgs
          refine ⟨fun c => absurd c (nI_pos (by omega)), fun _ => ⟨vp_in_nI (by omega) (by omega), ?_⟩⟩
          show (s.2.1 19 (nI q).toNatClampNeg = 0 → _) ∧ (¬ s.2.1 19 (nI q).toNatClampNeg = 0 → _)
          rw [nI_clamp (by omega)]
          refine ⟨fun c => nm_r edec (no (opb_f.mpr ?_)), fun c => nm_r (nI_1 _) (nm_e (nm_r edec ?_))⟩
          · rintro ⟨q', e, hs⟩
            rw [hgs] at e
            cases e
            exact (hz q hq).mpr hs c
          · have ht : opb (LL S set n) p i o = true := opb_t.mpr ⟨q, hgs, (hz q hq).mp c⟩
            rw [ht] at hc
            refine ih o _ (sI s 38 (nI o)) (by omega) (by omega) (gf_I hg (Or.inr (Or.inr rfl)) _) hT hz ?_ (Or.inl ⟨by omega, o, Nat.le_refl _, by omega, rfl, ht, fun l' h1 h2 => absurd h1 (by omega)⟩)
            simp only [if_true] at hc
            omega
  exact key N 8 0 (sI S1 38 (-1)) (by omega) (by omega) (gf_I g1 (Or.inr (Or.inr rfl)) _) t1 z1 (by omega) (Or.inr rfl)
theorem e_outsOpen {n set p i : Nat} {ls : List Lw} {Q : Int32 → RS → Prop} (hN : 100 ≤ N) (hi : i < 8) (hp : p < 1024) (e10 : sb.1 10 = nI p) (hG : GG ls ss) (hf : ∀ l, l ∈ ls → hi1 l ≤ hi1 l ∧ hi1 l ≤ 3) (hin : inC (ls.map hi1) p) (hr : ∀ q, inC (ls.map hi1) q → ∃ r, r ≤ 1024 ∧ ss.2.1 7 q = nI r ∧ Rk ls q r) (h : ∀ a mk en, a < 256 → (∀ o, o < 8 → a.testBit o = opb ls p i o) → Q (nI a) (spS ss mk en)) : fX5_outsOpen N sb ss (nI i) Q := by
  unfold fX5_outsOpen fX0_openTolds fX0_isPlace
  rw [e10]
  refine ⟨fun c => absurd c (nI_pos (by omega)), fun _ => ⟨fun c => absurd (show nI 1024 ≤ nI p from c) (nI_ge hp (by omega)), fun _ => ⟨fun c => absurd c (by decide), fun _ => ?_⟩⟩⟩
  refine e_openBefore hN hG (by omega) (fun O mk en hO => ?_)
  obtain ⟨a, ha, ea, hbits⟩ := byteI (O := O) hi
  rw [ea]
  refine h a mk en ha (fun o ho => ?_)
  rw [hbits o ho]
  refine b_eq ((hO (8 * i + o) (by omega)).trans (Iff.trans ?_ opb_t.symm))
  have hh : ∀ q, gst ls p (8 * i + o) = some q → ((ss.2.1 7 q = 0 ∨ ¬ ss.2.1 7 q < 1026) ↔ Safe ls q) := by
    intro q e
    obtain ⟨r, hr1, er, hRk⟩ := hr q (gst_cl hf hin e)
    rw [er]
    constructor
    · rintro (c | c)
      · have := (nI_eq (b := 0) (by omega) (by omega)).mp c
        subst this
        exact Rk_0 hRk
      · exact absurd (nI_lt (a := r) (b := 1026) (by omega) (by omega)) c
    · intro c
      by_cases z : r = 0
      · subst z
        exact Or.inl rfl
      · exact absurd (Rk_p hRk z).1 (c r)
  constructor
  · rintro ⟨q, e, c⟩
    exact ⟨q, e, (hh q e).mp c⟩
  · rintro ⟨q, e, c⟩
    exact ⟨q, e, (hh q e).mpr c⟩
theorem step_9 (hN : 1100 ≤ N) (h : Inv sb lw st sp sd ss sy si lp pf S) (v : Int32) : cL_9 N sb lw st sp sd ss sy si lp pf S v Inv := by
  have keep := h
  obtain ⟨n, ad, hW, hT, hD, hR, hP, hPl, hTr⟩ := h
  obtain ⟨hn, ec, ew, hl, inj, hz⟩ := id hW
  unfold cL_9 fX5_play fX6_play
  by_cases hv' : isS n 5 v
  · obtain ⟨set, h0, hs, hl5, rfl⟩ := hv'
    refine e_isSet5_yes (lim := 5) ec hn (by omega) h0 hs hl5 ⟨fun _ => ?_, fun c => absurd c (by decide)⟩
    refine e_lay4 hN hW hl5 (fun G op hL => ?_)
    rw [hv_0] at hL
    obtain ⟨hG, hO, hnd, hmem, hhl, hol⟩ := hL
    have hf := law_hi (set := set) hW 0
    rw [hv_0] at hf
    refine e_solve hN (CL_of (by rw [List.length_map]; exact hl5) hf) (inC_0 _) hG hO hnd hmem (fun G' hSD => nm_e (nm_e ?_))
    have hRk := SD_Rk hSD (by decide)
    obtain ⟨r0, op', -, ⟨hGG, -⟩, -⟩ := hSD
    obtain ⟨r, hr, er, hR0⟩ := hRk 0 (inC_0 _)
    have six : ∀ x : Int32, x = (if r = 0 then 1 else 0) → fX6_isSet N S (nI set) 5 (fun r1 => ((¬ r1 = 0 → (∀ S3 : RS, S3 = sI S 21 1 → (∀ S4 : RS, S4 = sI S3 22 (nI set) → (∀ S5 : RS, S5 = sI S4 23 0 → (fX6_takePlay N S5 (fun  S6 => (vp_in 0 1024 ∧ (((S6.2.1 19 (0 : Int32).toNatClampNeg) = 0 → (x = 0 ∧ Inv (sI (sI sb 9 (nI set)) 10 0) lw st sp sd G' sy si lp pf S6)) ∧ (¬ (S6.2.1 19 (0 : Int32).toNatClampNeg) = 0 → (x = 1 ∧ Inv (sI (sI sb 9 (nI set)) 10 0) lw st sp sd G' sy si lp pf S6)))))))))) ∧ (r1 = 0 → (x = -1 ∧ Inv (sI (sI sb 9 (nI set)) 10 0) lw st sp sd G' sy si lp pf S)))) := by
      intro x ex
      refine e_isSet6_yes (lim := 5) (by omega) ew hn (by omega) h0 hs hl5 ⟨fun _ => nm_e (nm_e (nm_e ?_)), fun c => absurd c (by decide)⟩
      have keep5 : Inv (sI (sI sb 9 (nI set)) 10 0) lw st sp sd G' sy si lp pf (sI (sI (sI S 21 1) 22 (nI set)) 23 0) := ⟨n, ad, hW, hT, hD, hR, hP, Or.inr ⟨rfl, set, 0, h0, hs, hl5, rfl, rfl, rfl, rfl, hGG.2, inC_0 _, hRk⟩, hTr⟩
      unfold fX6_takePlay
      refine e_tkSafe (S := sI (sI (sI S 21 1) 22 (nI set)) 23 0) (set := set) hN hW hl5 (fun S4 g4 _ _ z4 => ⟨vp_in_nI (n := 0) (by omega) (by omega), fun c => ⟨?_, Inv_gf keep5 g4⟩, fun c => ⟨?_, Inv_gf keep5 g4⟩⟩)
      · by_cases z : r = 0
        · subst z
          exact absurd c ((z4 0 (Nat.pow_pos (by omega))).mpr (Rk_0 hR0))
        · rw [if_neg z] at ex
          exact ex
      · by_cases z : r = 0
        · rw [if_pos z] at ex
          exact ex
        · exact absurd (Rk_p hR0 z).1 ((z4 0 (Nat.pow_pos (by omega))).mp c r)
    refine e_lostIn0 ?_
    rw [er]
    refine ⟨fun c => ?_, fun c => ?_⟩
    · exact e_bit (b := false) (six 0 (by rw [if_neg (fun z => c (by rw [z]; rfl))]))
    · exact e_bit (b := true) (six 1 (by rw [if_pos ((nI_eq (b := 0) (by omega) (by omega)).mp c)]))
  · refine e_isSet5_no (lim := 5) ec hn (by omega) hv' ⟨fun c => absurd rfl c, fun _ => ?_⟩
    exact e_isSet6_no (lim := 5) (by omega) ew hn (by omega) hv' ⟨fun c => absurd rfl c, fun _ => ⟨rfl, keep⟩⟩
theorem set_nz {set n : Nat} (h0 : 0 < set) (hs : set < 2 ^ n) (hn : n ≤ 20) : ¬ nI set = 0 := fun c => by
  have := p20 hn
  have := (nI_eq (b := 0) (by omega) (by omega)).mp c
  omega
theorem step_11 (hN : 1100 ≤ N) (h : Inv sb lw st sp sd ss sy si lp pf S) (v : Int32) : cL_11 N sb lw st sp sd ss sy si lp pf S v Inv := by
  have keep := h
  obtain ⟨n, ad, hW, hT, hD, hR, hP, hPl, hTr⟩ := h
  obtain ⟨hn, ec, ew, hl, inj, hz⟩ := id hW
  unfold cL_11 fX5_open fX6_open
  rcases hPl with ⟨e21, e9⟩ | ⟨e21, set, p, h0, hs, hl5, e22, e9, e23, e10, hGM, hin, hRk⟩
  · rw [e9, e21]
    refine ⟨fun _ => ?_, fun c => absurd rfl c⟩
    unfold fX6_within
    by_cases hv : ∃ t, 0 ≤ t ∧ t ≤ 7 ∧ v = nI t
    · obtain ⟨i, -, hi, rfl⟩ := hv
      exact wc_yes (lo := 0) (hi := 7) (by omega) hi (by omega) ⟨fun _ => ⟨rfl, keep⟩, fun _ => ⟨fun _ => ⟨rfl, keep⟩, fun c => absurd rfl c⟩⟩
    · exact wc_no (lo := 0) (hi := 7) (by omega) (by omega) hv ⟨fun _ => ⟨rfl, keep⟩, fun c => absurd rfl c⟩
  · rw [e9]
    refine ⟨fun c => absurd c (set_nz h0 hs hn), fun _ => ?_⟩
    unfold fX5_isWithin fX6_within
    by_cases hv : ∃ t, 0 ≤ t ∧ t ≤ 7 ∧ v = nI t
    · obtain ⟨i, -, hi, rfl⟩ := hv
      have hf := law_hi (set := set) hW 0
      rw [hv_0] at hf
      have hp : p < 4 ^ (mem set n).length := by
        have := inC_lt hin
        rw [List.length_map, List.length_map] at this
        exact this
      have hX := p4 hl5
      refine wc_yes (lo := 0) (hi := 7) (by omega) hi (by omega) ⟨fun _ => ?_, fun c => absurd c (by decide)⟩
      refine e_outsOpen (n := n) (set := set) (by omega) (by omega) (by omega) e10 ⟨by rw [List.length_map]; exact hl5, hGM⟩ hf hin hRk (fun a mk en ha hbits => ?_)
      refine e_bitCount (by omega) ?_
      refine wc_yes (lo := 0) (hi := 7) (by omega) hi (by omega) ⟨fun c => absurd c (by decide), fun _ => ?_⟩
      rw [e21]
      refine ⟨fun c => absurd c (by decide), fun _ => ?_⟩
      refine e_openFor hN hW hl5 (by omega) (by omega) e22 e23 (fun t _ q e => ?_) (fun S1 g1 t1 _ => ⟨?_, ?_⟩)
      · have := inC_lt (gst_cl hf hin e)
        rw [List.length_map, List.length_map] at this
        exact this
      · have c1 : fb_ct (fun i => a.testBit i) 20 = cz (opb (LL S set n) p i) 8 := by
          rw [← cz_fb, show 20 = 8 + 12 from rfl, cz_add (a := 8) 12 (fun q hq => Nat.testBit_lt_two_pow (Nat.lt_of_lt_of_le ha (Nat.pow_le_pow_right (n := 2) (by omega) hq)))]
          exact cz_un 8 (fun q hq => hbits q hq)
        unfold pcn
        rw [c1]
      · exact Inv_gf (sd := sd) (ss := spS ss mk en) ⟨n, ad, hW, hT, hD, hR, hP, Or.inr ⟨e21, set, p, h0, hs, hl5, e22, e9, e23, e10, hGM, hin, hRk⟩, hTr⟩ g1
    · refine wc_no (lo := 0) (hi := 7) (by omega) (by omega) hv ⟨fun c => absurd rfl c, fun _ => ?_⟩
      exact wc_no (lo := 0) (hi := 7) (by omega) (by omega) hv ⟨fun _ => ⟨rfl, keep⟩, fun c => absurd rfl c⟩
theorem step_10 (hN : 1100 ≤ N) (h : Inv sb lw st sp sd ss sy si lp pf S) (v : Int32) : cL_10 N sb lw st sp sd ss sy si lp pf S v Inv := by
  have keep := h
  obtain ⟨n, ad, hW, hT, hD, hR, hP, hPl, hTr⟩ := h
  obtain ⟨hn, ec, ew, hl, inj, hz⟩ := id hW
  unfold cL_10 fX5_tick fX6_tick
  rcases hPl with ⟨e21, e9⟩ | ⟨e21, set, p, h0, hs, hl5, e22, e9, e23, e10, hGM, hin, hRk⟩
  · rw [e9, e21]
    refine ⟨fun _ => ?_, fun c => absurd rfl c⟩
    unfold fX6_within
    by_cases hv : ∃ t, 0 ≤ t ∧ t ≤ 7 ∧ v = nI t
    · obtain ⟨i, -, hi, rfl⟩ := hv
      exact wc_yes (lo := 0) (hi := 7) (by omega) hi (by omega) ⟨fun _ => ⟨rfl, keep⟩, fun _ => ⟨fun c => absurd rfl c, fun _ => ⟨rfl, keep⟩⟩⟩
    · exact wc_no (lo := 0) (hi := 7) (by omega) (by omega) hv ⟨fun _ => ⟨rfl, keep⟩, fun c => absurd rfl c⟩
  · rw [e9]
    refine ⟨fun c => absurd c (set_nz h0 hs hn), fun _ => ?_⟩
    unfold fX5_isWithin fX6_within
    by_cases hv : ∃ t, 0 ≤ t ∧ t ≤ 7 ∧ v = nI t
    · obtain ⟨i, -, hi, rfl⟩ := hv
      have hf := law_hi (set := set) hW 0
      rw [hv_0] at hf
      have hp : p < 4 ^ (mem set n).length := by
        have := inC_lt hin
        rw [List.length_map, List.length_map] at this
        exact this
      have hX := p4 hl5
      have hGG : GG (LL S set n) ss := ⟨by rw [List.length_map]; exact hl5, hGM⟩
      have hb : ∀ t, t < 64 → ∀ q, gst (LL S set n) p t = some q → q < 4 ^ (mem set n).length := by
        intro t _ q e
        have := inC_lt (gst_cl hf hin e)
        rw [List.length_map, List.length_map] at this
        exact this
      refine wc_yes (lo := 0) (hi := 7) (by omega) hi (by omega) ⟨fun _ => ?_, fun c => absurd c (by decide)⟩
      refine e_outsOpen (n := n) (set := set) (by omega) (by omega) (by omega) e10 hGG hf hin hRk (fun a mk en ha hbits => ?_)
      have six : ∀ (K : Int32 → RS → Prop), (∀ S1, gf S S1 → ST (LL S set n) S1 → ((0 < cz (opb (LL S set n) p i) 8 ∧ ∃ l, l < 8 ∧ S1.1 38 = nI l ∧ opb (LL S set n) p i l = true ∧ ∀ l', l' < l → opb (LL S set n) p i l' = false) ∨ cz (opb (LL S set n) p i) 8 = 0) → K (nI (cz (opb (LL S set n) p i) 8)) S1) → fX6_openFor N S (nI i) K := fun K hK => e_openFor hN hW hl5 (by omega) (by omega) e22 e23 hb hK
      have hle := cz_le (opb (LL S set n) p i) 8
      refine ⟨fun c => ?_, fun c => nm_e ?_⟩
      · have ha0 : 0 < a := by
          refine Nat.pos_of_ne_zero (fun z => c ?_)
          rw [z]
          rfl
        refine e_leastBit (by omega) ha ha0 (fun l hl8 hl1 hl2 => ?_)
        have hol : opb (LL S set n) p i l = true := by rw [← hbits l hl8]; exact hl1
        obtain ⟨q, hg, hsq⟩ := opb_t.mp hol
        rw [e10, show (8 : Int32) * nI i = nI (8 * i) from pk_mul 8 i, nI_add]
        refine e_placeAfter (by omega) (GG_sp hGG mk en) (by omega) (by omega) hg (nm_e ?_)
        refine wc_yes (lo := 0) (hi := 7) (by omega) hi (by omega) ⟨fun c => absurd c (by decide), fun _ => ?_⟩
        rw [e21]
        refine ⟨fun _ => six _ (fun S1 g1 t1 hh => ?_), fun c => absurd c (by decide)⟩
        rcases hh with ⟨hc, l', h1, h2, h3, h4⟩ | hc
        · have el : l' = l := by
            have a1 : ¬ l' < l := fun c => by
              have := hl2 l' c
              rw [hbits l' h1, h3] at this
              cases this
            have a2 : ¬ l < l' := fun c => by
              have := h4 l c
              rw [hol] at this
              cases this
            omega
          subst el
          refine ⟨fun _ => nm_r h2 ?_, fun c => absurd ((nI_eq (b := 0) (by omega) (by omega)).mp c) (by omega)⟩
          rw [show S1.1 23 = nI p from (g1.1 23 (by decide) (by decide) (by decide)).trans e23, nI_add]
          refine e_behind (by omega) t1 (by omega) (by omega) ?_
          rw [hg]
          refine nm_e ⟨rfl, ?_⟩
          have k1 : Inv (sI sb 10 (nI q)) lw st sp sd (spS ss mk en) sy si lp pf (sI S 23 (nI q)) := ⟨n, ad, hW, hT, hD, hR, hP, Or.inr ⟨e21, set, q, h0, hs, hl5, e22, e9, rfl, rfl, hGM, gst_cl hf hin hg, hRk⟩, hTr⟩
          refine Inv_gf k1 ⟨fun j x1 x2 x3 => ?_, g1.2.1, g1.2.2⟩
          show up S1.1 23 (nI q) j = up S.1 23 (nI q) j
          by_cases z : j = 23
          · subst z
            rw [up_same, up_same]
          · rw [up_ne z, up_ne z]
            exact g1.1 j x1 x2 x3
        · exfalso
          have := cz_mono (g := opb (LL S set n) p i) (show l + 1 ≤ 8 by omega)
          rw [cz_s, hol, hc] at this
          simp at this
      · have ha0 : a = 0 := (nI_eq (b := 0) (by omega) (by omega)).mp c
        refine wc_yes (lo := 0) (hi := 7) (by omega) hi (by omega) ⟨fun c => absurd c (by decide), fun _ => ?_⟩
        rw [e21]
        refine ⟨fun _ => six _ (fun S1 g1 t1 hh => ?_), fun c => absurd c (by decide)⟩
        rcases hh with ⟨hc, l', h1, h2, h3, h4⟩ | hc
        · rw [← hbits l' h1, ha0, Nat.zero_testBit] at h3
          cases h3
        · rw [hc]
          refine ⟨fun c => absurd rfl c, fun _ => nm_e ⟨rfl, ?_⟩⟩
          have k1 : Inv (sI sb 9 0) lw st sp sd (spS ss mk en) sy si lp pf (sI S 21 0) := ⟨n, ad, hW, hT, hD, hR, hP, Or.inl ⟨rfl, rfl⟩, hTr⟩
          refine Inv_gf k1 ⟨fun j x1 x2 x3 => ?_, g1.2.1, g1.2.2⟩
          show up S1.1 21 0 j = up S.1 21 0 j
          by_cases z : j = 21
          · subst z
            rw [up_same, up_same]
          · rw [up_ne z, up_ne z]
            exact g1.1 j x1 x2 x3
    · refine wc_no (lo := 0) (hi := 7) (by omega) (by omega) hv ⟨fun c => absurd rfl c, fun _ => ?_⟩
      exact wc_no (lo := 0) (hi := 7) (by omega) (by omega) hv ⟨fun _ => ⟨rfl, keep⟩, fun c => absurd rfl c⟩
end PLAY
