/-! peace: both sides -/
def gq (S S' : RS) : Prop := (∀ j, j ∈ [13, 2, 0, 31, 32, 21, 22, 23] → S'.1 j = S.1 j) ∧ (∀ j, j ∈ [3, 4, 12, 7, 8, 9, 10, 11, 34, 1, 30, 33] → S'.2.1 j = S.2.1 j) ∧ S'.2.2.2 = S.2.2.2
theorem gq_0 (S : RS) : gq S S := ⟨fun _ _ => rfl, fun _ _ => rfl, rfl⟩
theorem gq_I {S S' : RS} (h : gq S S') {k : Nat} (hk : ¬ k ∈ [13, 2, 0, 31, 32, 21, 22, 23]) (x : Int32) : gq S (sI S' k x) := ⟨fun j hj => by rw [← h.1 j hj]; exact up_ne (fun e => hk (by rw [← e]; exact hj)), h.2.1, h.2.2⟩
theorem gq_A {S S' : RS} (h : gq S S') {k : Nat} (hk : ¬ k ∈ [3, 4, 12, 7, 8, 9, 10, 11, 34, 1, 30, 33]) (x : Nat → Int32) : gq S (sA S' k x) := ⟨h.1, fun j hj => by rw [← h.2.1 j hj]; exact up_ne (fun e => hk (by rw [← e]; exact hj)), h.2.2⟩
theorem in_ne {l k : List Nat} (h : ∀ j, j ∈ l → ¬ j ∈ k) {j : Nat} (hj : j ∈ l) : ¬ j ∈ k := h j hj
theorem gq_pfr {S S' s : RS} (h : gq S S') (g : pfr S' s) : gq S s := ⟨fun j hj => (g.1 j (in_ne (l := [13, 2, 0, 31, 32, 21, 22, 23]) (by decide) hj)).trans (h.1 j hj), fun j hj => (g.2.1 j (in_ne (l := [3, 4, 12, 7, 8, 9, 10, 11, 34, 1, 30, 33]) (by decide) hj)).trans (h.2.1 j hj), g.2.2.trans h.2.2⟩
def prw (wo ea : Nat → Int32) (w e : Nat) : Nat := if e = 4 then (wo w).toNatClampNeg else (ea w).toNatClampNeg * e
section STEP17
variable {N : Nat} {sb : RS} {lw : Nat → Option Nat} {st sp sd sd' ss sy : RS} {si : Nat → Option Nat} {lp : List Nat} {pf : Nat → RS} {S S' : RS}
theorem bst_0 {f : Nat → Lw} {pw : Nat → Nat → Nat} {W : List Nat} {lim : Nat} : bst f pw W lim 0 none := ⟨fun fs _ h _ => absurd h (by omega), fun P c e => by cases e⟩
theorem e_peace5 {n set : Nat} {ad : Nat → Nat} {wa : Int32} {so nu : Nat → Int32} {fi se : Nat → Int64} {byt ow wo ea re gu le : Nat → Int32} {Q : Int32 → RS → RS → RS → (Nat → Option Nat) → Prop} (hN : 1100 ≤ N) (hW : IW n ad (sb.1 2) lw lp pf wa so nu fi se byt ow wo ea re gu le) (h0 : 0 < set) (hs : set < 2 ^ n) (h4 : (mem set n).length ≤ 4) (h : ∀ sd' sy' si' o, bst (lawL so nu fi se) (prw wo ea) (mem set n) 1000 (5 ^ (mem set n).length) o → CY o sy' → sy'.1 3 = nI (mem set n).length → Q (sy'.1 4) (sI sb 12 (nI set)) sd' sy' si') : fX5_peace N sb lw sd sy si lp pf (nI set) Q := by
  obtain ⟨hn, ec, ew', hl, inj, hz⟩ := id hW
  have hp20 := p20 hn
  unfold fX5_peace
  refine e_isSet5_yes (lim := 4) ec hn (by omega) h0 hs h4 ⟨fun _ => nm_e (nm_e ?_), fun c => absurd c (by decide)⟩
  have key := loop_i (σ := RS × (Nat → Option Nat)) (fun w j s => fX5_peace_20 N sb lw sd lp pf (nI set) (fun sy16 si17 => (∀ sb18 : RS, sb18 = sI sb 12 (nI set) → (fX4_settle N sy16 si17 sd lp pf 0 0 (fun  sy19 sd20 => Q (sy19.1 4) sb18 sd20 sy19 si17)))) Q w (nI j) s.1 s.2) (fun j s => s.1.1 3 = nI (mem set j).length ∧ s.1.1 4 = 1000 ∧ ∀ i w, (mem set j)[i]? = some w → s.2 i = some (ad w)) n ?_ ?_ N 0 (sI (sI sy 3 0) 4 1000, si) (by omega) (by omega) ⟨rfl, rfl, fun i w hw => by simp [mem] at hw⟩
  · exact key
  · rintro w ⟨Y, sj⟩ ⟨a1, a2, a3⟩
    refine lp_end ec (nm_e ?_)
    have hX : CX (lawL so nu fi se) (prw wo ea) (mem set n) sj lp pf := by
      intro j x hx
      obtain ⟨hxn, -, -⟩ := mem_get hx
      obtain ⟨c1, c2, ⟨b1, b2, b3, b4, -, -, b7, b8, -⟩, ⟨⟨a, ha, e3⟩, ⟨m, hm, e4⟩, -, ⟨x1, _, hx1, e8⟩, ⟨y1, _, hy1, e9⟩, -⟩⟩ := hl x hxn
      refine ⟨ad x, a3 j x hx, c2, a, m, x1, y1, ha, hm, hx1, hy1, by rw [b1, e3], by rw [b2, e4], ?_, by rw [b7, e8], by rw [b8, e9], fun e => ?_⟩
      · unfold lawL
        rw [e3, e4, nI_clamp (by omega), nI_clamp (by omega), b3, b4]
      · unfold prw
        rw [e8, e9, nI_clamp (by omega), nI_clamp (by omega)]
    have go := e_settle hN hX h4 (mem set n).length 12 [] Y sd none (fun sy19 sd20 => Q (sy19.1 4) (sI sb 12 (nI set)) sd20 sy19 sj) (by simp) (by omega) (okk_nil _ _) (by rw [lws_nil]; exact Safe_nil) (by rw [prc_nil]; show 0 < 1000; omega) (by rw [show cd [] = 0 from rfl, Nat.zero_mul]; exact bst_0) ⟨a2, Nat.le_refl _, fun P c e => by cases e⟩ a1 (fun j e he => by simp at he) (fun Y' G' o' c1 c2 c3 _ => h G' Y' sj o' ?_ c2 c3)
    · rw [prc_nil] at go
      exact go
    · rw [show (cd [] + 1) = 1 from rfl, Nat.one_mul] at c1
      exact c1
  · rintro w j ⟨Y, sj⟩ hj ⟨a1, a2, a3⟩ ih
    have a1 : Y.1 3 = nI (mem set j).length := a1
    obtain ⟨c1, c2, -⟩ := hl j hj
    refine lp_in ec (by omega) hj (e_isIn (by omega) ?_)
    rw [bt_nI (by omega)]
    refine sel (fun cb => ⟨vp_in_nI (by omega) (by omega), ?_⟩) (fun cb => nm_r (nI_1 j) (ih (Y, sj) ⟨?_, a2, ?_⟩))
    · have hr := rkn_lt hj cb
      rw [← mem_len] at hr
      rw [nI_clamp (by omega)]
      refine ⟨ad j, c1, c2, ?_⟩
      unfold fX4_invite
      show (4 ≤ Y.1 3 → _) ∧ (¬ 4 ≤ Y.1 3 → vp_in (Y.1 3) 4 ∧ ∀ si3 : Nat → Option Nat, si3 = va_up sj (Y.1 3).toNatClampNeg (some (ad j)) → ∀ Y4 : RS, Y4 = sI Y 3 (Y.1 3 + 1) → _)
      rw [a1]
      refine ⟨fun c => absurd (show nI 4 ≤ nI (mem set j).length from c) (nI_ge (by omega) (by omega)), fun _ => ⟨vp_in_nI (by omega) (by omega), ?_⟩⟩
      rw [nI_clamp (by omega), nI_1]
      refine nm_e (nm_e (nm_r (nI_1 j) (ih (sI Y 3 (nI ((mem set j).length + 1)), va_up sj (mem set j).length (some (ad j))) ⟨?_, a2, fun i x hx => ?_⟩)))
      · show nI _ = _
        rw [mem_succ, if_pos cb, List.length_append]
        rfl
      · show va_up sj (mem set j).length (some (ad j)) i = some (ad x)
        rw [mem_succ, if_pos cb] at hx
        by_cases z : i < (mem set j).length
        · rw [List.getElem?_append_left z] at hx
          unfold va_up
          rw [if_neg (by omega)]
          exact a3 i x hx
        · rw [List.getElem?_append_right (by omega)] at hx
          have z2 : i = (mem set j).length := by
            have := (List.getElem?_eq_some_iff.mp hx).1
            rw [List.length_singleton] at this
            omega
          subst z2
          rw [Nat.sub_self] at hx
          cases hx
          unfold va_up
          rw [if_pos rfl]
    · rw [mem_succ, if_neg (by rw [cb]; decide), List.append_nil]
      exact a1
    · rw [mem_succ, if_neg (by rw [cb]; decide), List.append_nil]
      exact a3
theorem e_peace6 {n set : Nat} {ad : Nat → Nat} {cnt : Int32} {byt ow re gu le : Nat → Int32} {Q : Int32 → RS → Prop} (hN : 1100 ≤ N) (hW : IW n ad cnt lw lp pf (S.1 13) (S.2.1 3) (S.2.1 4) (S.2.2.2 5) (S.2.2.2 6) byt ow (S.2.1 8) (S.2.1 9) re gu le) (h0 : 0 < set) (hs : set < 2 ^ n) (h4 : (mem set n).length ≤ 4) (h : ∀ s o, gq S s → bst (lawL (S.2.1 3) (S.2.1 4) (S.2.2.2 5) (S.2.2.2 6)) (prw (S.2.1 8) (S.2.1 9)) (mem set n) 100000 (5 ^ (mem set n).length) o → CS o s → Q (s.1 27) (sI s 26 (nI set))) : fX6_peace N S (nI set) Q := by
  obtain ⟨hn, -, ew', hl, inj, hz⟩ := id hW
  have hp20 := p20 hn
  unfold fX6_peace
  refine e_isSet6_yes (lim := 4) (by omega) ew' hn (by omega) h0 hs h4 ⟨fun _ => nm_e ?_, fun c => absurd c (by decide)⟩
  have key := loop_i (σ := RS) (fun w j s => fX6_peace_18 N (nI set) (fun S11 => (∀ S12 : RS, S12 = sI S11 29 0 → (∀ S13 : RS, S13 = sI S12 27 (-1) → (fX6_go N S13 0 0 (fun  S14 => (∀ S15 : RS, S15 = sI S14 26 (nI set) → Q (S15.1 27) S15)))))) Q w (nI j) s) (fun j s => gq S s ∧ s.1 42 = nI (mem set j).length ∧ ∀ i w, (mem set j)[i]? = some w → s.2.1 41 i = nI w) n ?_ ?_ N 0 (sI S 42 0) (by omega) (by omega) ⟨gq_I (gq_0 S) (by decide) 0, rfl, fun i w hw => by simp [mem] at hw⟩
  · exact key
  · rintro w s ⟨a1, a2, a3⟩
    refine lp_end ((a1.1 13 (by decide)).trans ew') (nm_e (nm_e ?_))
    have hX : RX (lawL (S.2.1 3) (S.2.1 4) (S.2.2.2 5) (S.2.2.2 6)) (prw (S.2.1 8) (S.2.1 9)) (mem set n) (sI (sI s 29 0) 27 (-1)) := by
      refine ⟨a2, h4, fun j x hx => ?_⟩
      obtain ⟨hxn, -, -⟩ := mem_get hx
      obtain ⟨-, -, -, ⟨⟨a, ha, e3⟩, ⟨m, hm, e4⟩, -, ⟨x1, _, hx1, e8⟩, ⟨y1, _, hy1, e9⟩, -⟩⟩ := hl x hxn
      refine ⟨a3 j x hx, by omega, a, m, x1, y1, ha, hm, hx1, hy1, ?_, ?_, ?_, ?_, ?_, fun e => ?_⟩
      · show s.2.1 3 x = _
        rw [a1.2.1 3 (by decide)]
        exact e3
      · show s.2.1 4 x = _
        rw [a1.2.1 4 (by decide)]
        exact e4
      · show _ = (a, m, tb (s.2.2.2 5 x), tb (s.2.2.2 6 x))
        unfold lawL
        rw [e3, e4, nI_clamp (by omega), nI_clamp (by omega), a1.2.2]
      · show s.2.1 8 x = _
        rw [a1.2.1 8 (by decide)]
        exact e8
      · show s.2.1 9 x = _
        rw [a1.2.1 9 (by decide)]
        exact e9
      · unfold prw
        rw [e8, e9, nI_clamp (by omega), nI_clamp (by omega)]
    have go := e_go hN hX (mem set n).length 6 [] (sI (sI s 29 0) 27 (-1)) none 0 (fun S14 => (∀ S15 : RS, S15 = sI S14 26 (nI set) → Q (S15.1 27) S15)) (by simp) (by omega) (okk_nil _ _) (by rw [show cd [] = 0 from rfl, Nat.zero_mul]; exact bst_0) ⟨fun _ => rfl, fun P c e => by cases e⟩ (pfr_0 _) ⟨rfl, fun k hk => absurd hk (by omega)⟩ (Nat.zero_le _) Nat.one_pos (fun j e he => by simp at he) (fun s' o' nf' c1 c2 c3 c4 c5 _ => nm_e (h s' o' (gq_pfr (gq_I (gq_I a1 (by decide) _) (by decide) _) c3) ?_ c2))
    · rw [prc_nil] at go
      exact go
    · rw [show (cd [] + 1) = 1 from rfl, Nat.one_mul] at c1
      exact c1
  · rintro w j s hj ⟨a1, a2, a3⟩ ih
    refine lp_in ((a1.1 13 (by decide)).trans ew') (by omega) hj ?_
    rw [sshr_bit (by omega), bt_nI (by omega)]
    refine sel1 (fun cb => ?_) (fun cb => nm_r (nI_1 j) (ih s ⟨a1, ?_, ?_⟩))
    · have hr := rkn_lt hj cb
      rw [← mem_len] at hr
      refine ⟨by rw [a2]; exact vp_in_nI (by omega) (by omega), nm_e (nm_e (nm_r (nI_1 j) (ih _ ⟨gq_I (gq_A a1 (by decide) _) (by decide) _, ?_, fun i x hx => ?_⟩)))⟩
      · show s.1 42 + 1 = _
        rw [a2, nI_1, mem_succ, if_pos cb, List.length_append]
        rfl
      · show upd (s.2.1 41) (s.1 42).toNatClampNeg (nI j) i = nI x
        rw [a2, nI_clamp (by omega)]
        rw [mem_succ, if_pos cb] at hx
        by_cases z : i < (mem set j).length
        · rw [List.getElem?_append_left z] at hx
          rw [pk_un (by omega)]
          exact a3 i x hx
        · rw [List.getElem?_append_right (by omega)] at hx
          have z2 : i = (mem set j).length := by
            have := (List.getElem?_eq_some_iff.mp hx).1
            rw [List.length_singleton] at this
            omega
          subst z2
          rw [Nat.sub_self] at hx
          cases hx
          exact pk_us
    · rw [mem_succ, if_neg (by rw [cb]; decide), List.append_nil]
      exact a2
    · rw [mem_succ, if_neg (by rw [cb]; decide), List.append_nil]
      exact a3
theorem step_17 (hN : 1100 ≤ N) (h : Inv sb lw st sp sd ss sy si lp pf S) (v : Int32) : cL_17 N sb lw st sp sd ss sy si lp pf S v Inv := by
  have keep := h
  obtain ⟨n, ad, hW, hT, hD, hR, hP, hPl, hTr⟩ := h
  obtain ⟨hn, ec, ew', hl, inj, hz⟩ := id hW
  unfold cL_17
  by_cases hv' : isS n 4 v
  · obtain ⟨set, h0, hs, h4, rfl⟩ := hv'
    refine e_peace5 hN hW h0 hs h4 (fun sd1 sy1 si1 o hb hC h3 => e_peace6 hN hW h0 hs h4 (fun s o' g hb' hC' => ?_))
    obtain ⟨la, lb⟩ := left_all (lawL (S.2.1 3) (S.2.1 4) (S.2.2.2 5) (S.2.2.2 6)) (mem set n)
    have lfull : full (lawL (S.2.1 3) (S.2.1 4) (S.2.2.2 5) (S.2.2.2 6)) (mem set n) (List.replicate (mem set n).length 4) := ⟨List.length_replicate .., la⟩
    have lcd : cd (List.replicate (mem set n).length 4) < 5 ^ (mem set n).length := by
      have := (tcode_bd (List.replicate (mem set n).length 4) 0 (okk_dig la)).2
      rw [List.length_replicate, Nat.zero_add, Nat.one_mul] at this
      exact this
    have lp' : prc (prw (S.2.1 8) (S.2.1 9)) (mem set n) (List.replicate (mem set n).length 4) ≤ 99 * (mem set n).length := by
      refine left_prc _ (fun w hw => ?_)
      have hwn : w < n := by
        unfold mem at hw
        rw [List.mem_filter, List.mem_range] at hw
        exact hw.1
      obtain ⟨-, -, -, ⟨-, -, -, ⟨x1, _, hx1, e8⟩, -⟩⟩ := hl w hwn
      show (if 4 = 4 then (S.2.1 8 w).toNatClampNeg else _) ≤ 99
      rw [if_pos rfl, e8, nI_clamp (by omega)]
      exact hx1
    obtain ⟨P, c, eo, eo', hc⟩ := bst_1 hb hb' lfull lcd (by rw [lb]; exact Safe_nil) (by omega) (by omega)
    subst eo
    subst eo'
    obtain ⟨c1, c2, c3⟩ := hC
    obtain ⟨d1, d2, d3⟩ := hC'.2 P c rfl
    refine ⟨?_, ?_⟩
    · rw [d1]
      exact c1
    · refine ⟨n, ad, ?_, ?_, ?_, ?_, ?_, ?_, set, hs, rfl, rfl, fun _ => ⟨h3, h4, fun i hi => ?_⟩⟩
      · show IW n ad (sb.1 2) lw lp pf (s.1 13) (s.2.1 3) (s.2.1 4) (s.2.2.2 5) (s.2.2.2 6) (s.2.1 12) (s.2.1 7) (s.2.1 8) (s.2.1 9) (s.2.1 10) (s.2.1 11) (s.2.1 34)
        rw [g.1 13 (by decide), g.2.1 3 (by decide), g.2.1 4 (by decide), g.2.2, g.2.1 12 (by decide), g.2.1 7 (by decide), g.2.1 8 (by decide), g.2.1 9 (by decide), g.2.1 10 (by decide), g.2.1 11 (by decide), g.2.1 34 (by decide)]
        exact hW
      · show IT (st.1 1) (st.2.1 0) (s.1 2) (s.2.1 1)
        rw [g.1 2 (by decide), g.2.1 1 (by decide)]
        exact hT
      · show ID (sb.1 3) (s.1 0)
        rw [g.1 0 (by decide)]
        exact hD
      · show IR (sb.1 5) (sb.2.1 4) (s.1 31) (s.2.1 30)
        rw [g.1 31 (by decide), g.2.1 30 (by decide)]
        exact hR
      · show IP (sp.1 1) (sp.2.1 0) (s.1 32) (s.2.1 33)
        rw [g.1 32 (by decide), g.2.1 33 (by decide)]
        exact hP
      · show IPl n (s.1 21) (s.1 22) (s.1 23) (sb.1 9) (sb.1 10) ss (s.2.1 3) (s.2.1 4) (s.2.2.2 5) (s.2.2.2 6)
        rw [g.1 21 (by decide), g.1 22 (by decide), g.1 23 (by decide), g.2.1 3 (by decide), g.2.1 4 (by decide), g.2.2]
        exact hPl
      · obtain ⟨e, he⟩ : ∃ e, c[i]? = some e := ⟨c[i]'(by rw [hc.1]; exact hi), List.getElem?_eq_getElem _⟩
        show sy1.2.1 2 i = s.2.1 25 i
        rw [c3 P c rfl i e he, d3 i e he]
  · unfold fX5_peace fX6_peace
    refine e_isSet5_no (lim := 4) ec hn (by omega) hv' ⟨fun c => absurd rfl c, fun _ => ?_⟩
    exact e_isSet6_no (lim := 4) (by omega) ew' hn (by omega) hv' ⟨fun c => absurd rfl c, fun _ => ⟨rfl, keep⟩⟩
end STEP17
