/-! feed -/
theorem byte_eq (v : Int32) {i : Nat} (hi : i < 4) : ((v.toUInt32 >>> (((8 : Int32) * nI i).toUInt32 &&& Int32.toUInt32 31)).toInt32) &&& (255 : Int32) = (v >>> (((8 : Int32) * nI i) &&& 31)) &&& (255 : Int32) := by
  rw [show (8 : Int32) * nI i = nI (8 * i) from pk_mul 8 i]
  apply b_ext
  intro j hj
  rw [b_and, b_and, b_255, b_ushr (8 * i) (by omega), b_sshr (8 * i) (by omega) v hj]
  by_cases q : j < 8
  · rw [if_pos (by omega)]
  · rw [decide_eq_false q, Bool.and_false, Bool.and_false]
section FEED
variable {N : Nat} {sb st sp sd ss sy S : RS} {lw si : Nat → Option Nat} {lp : List Nat} {pf : Nat → RS}
def fby (v : Int32) (i : Nat) : Int32 := (v >>> (((8 : Int32) * nI i) &&& 31)) &&& (255 : Int32)
theorem e_take {T : RS} {k m : Nat} {v : Int32} {K : RS → Prop} {Q : Int32 → RS → Prop} (hm : m ≤ 4) (hkm : k + m ≤ 80) (hN : 30 ≤ N) (e : T.1 1 = nI k) (h : ∀ T' : RS, T'.1 1 = nI (k + m) → (∀ j, j < k → T'.2.1 0 j = T.2.1 0 j) → (∀ i, i < m → T'.2.1 0 (k + i) = fby v i) → K T') : fX3_take_15 N (nI m) v K Q N 0 T := by
  have key := loop_i (σ := RS) (fun w i s => fX3_take_15 N (nI m) v K Q w (nI i) s) (fun i s => s.1 1 = nI (k + i) ∧ (∀ j, j < k → s.2.1 0 j = T.2.1 0 j) ∧ (∀ j, j < i → s.2.1 0 (k + j) = fby v j)) m (fun w s hs => lp_end rfl (h s hs.1 hs.2.1 hs.2.2)) (fun w i s hi hs ih => lp_in rfl (by omega) hi ?_) N 0 T (by omega) (by omega) ⟨e, fun _ _ => rfl, fun j hj => absurd hj (by omega)⟩
  · exact key
  · obtain ⟨h1, h2, h3⟩ := hs
    refine ⟨by rw [h1]; exact vp_in_nI (by omega) (by omega), nm_e (nm_e (nm_r (nI_1 i) (ih _ ⟨?_, fun j hj => ?_, fun j hj => ?_⟩)))⟩
    · show s.1 1 + 1 = _
      rw [h1, nI_1]
      rfl
    · show upd (s.2.1 0) (s.1 1).toNatClampNeg _ j = _
      rw [h1, nI_clamp (by omega), pk_un (by omega)]
      exact h2 j hj
    · show upd (s.2.1 0) (s.1 1).toNatClampNeg _ (k + j) = _
      rw [h1, nI_clamp (by omega)]
      by_cases q : j = i
      · subst q
        rw [pk_us, byte_eq v (by omega)]
        rfl
      · rw [pk_un (by omega)]
        exact h3 j (by omega)
theorem e_feed27 {k m : Nat} {v : Int32} {K : RS → Prop} {Q : Int32 → RS → Prop} {W : RS → Prop} (hW : ∀ (s : RS) (f : Nat → Int32) (x : Int32), W s → W (sI (sA s 1 f) 2 x)) (hS : W S) (hm : m ≤ 4) (hkm : k + m ≤ 80) (hN : 30 ≤ N) (e : S.1 2 = nI k) (h : ∀ T' : RS, W T' → T'.1 2 = nI (k + m) → (∀ j, j < k → T'.2.1 1 j = S.2.1 1 j) → (∀ i, i < m → T'.2.1 1 (k + i) = fby v i) → K T') : fX6_feed_27 N (nI m) v K Q N 0 S := by
  have key := loop_i (σ := RS) (fun w i s => fX6_feed_27 N (nI m) v K Q w (nI i) s) (fun i s => W s ∧ s.1 2 = nI (k + i) ∧ (∀ j, j < k → s.2.1 1 j = S.2.1 1 j) ∧ (∀ j, j < i → s.2.1 1 (k + j) = fby v j)) m (fun w s hs => lp_end rfl (h s hs.1 hs.2.1 hs.2.2.1 hs.2.2.2)) (fun w i s hi hs ih => lp_in rfl (by omega) hi ?_) N 0 S (by omega) (by omega) ⟨hS, e, fun _ _ => rfl, fun j hj => absurd hj (by omega)⟩
  · exact key
  · obtain ⟨h0, h1, h2, h3⟩ := hs
    refine ⟨by rw [h1]; exact vp_in_nI (by omega) (by omega), nm_e (nm_e (nm_r (nI_1 i) (ih _ ⟨hW _ _ _ h0, ?_, fun j hj => ?_, fun j hj => ?_⟩)))⟩
    · show s.1 2 + 1 = _
      rw [h1, nI_1]
      rfl
    · show upd (s.2.1 1) (s.1 2).toNatClampNeg _ j = _
      rw [h1, nI_clamp (by omega), pk_un (by omega)]
      exact h2 j hj
    · show upd (s.2.1 1) (s.1 2).toNatClampNeg _ (k + j) = _
      rw [h1, nI_clamp (by omega)]
      by_cases q : j = i
      · subst q
        rw [pk_us]
        rfl
      · rw [pk_un (by omega)]
        exact h3 j (by omega)
theorem step_1 (hN : 30 ≤ N) (h : Inv sb lw st sp sd ss sy si lp pf S) (v w : Int32) : cL_1 N sb lw st sp sd ss sy si lp pf S v w Inv := by
  have keep := h
  obtain ⟨n, ad, hW, ⟨k, hk, et1, et2, ht⟩, hD, hR, hP, hPl, hTr⟩ := h
  unfold cL_1 fX5_feed fX3_take fX6_feed fX6_within
  by_cases hv : ∃ m, 1 ≤ m ∧ m ≤ 4 ∧ v = nI m
  · obtain ⟨m, hm1, hm, e⟩ := hv
    subst e
    refine ⟨fun c => absurd c (nI_nlt hm1 (by omega)), fun _ => ⟨fun _ => ?_, fun c => absurd (nI_le hm (by omega)) c⟩⟩
    rw [et1, et2, nI_add]
    by_cases q : k + m ≤ 80
    · refine ⟨fun _ => ?_, fun c => absurd (nI_le q (by omega)) c⟩
      refine e_take hm q hN et1 (fun T' a1 a2 a3 => ⟨fun c => absurd c (by decide), fun _ => ?_⟩)
      refine wc_yes (lo := 1) (hi := 4) hm1 hm (by omega) ⟨fun _ => ⟨fun _ => ?_, fun c => absurd (nI_le q (by omega)) c⟩, fun c => absurd c (by decide)⟩
      refine e_feed27 (W := fun s => ∀ (st' : RS) (f : Nat → Int32) (x : Int32), IT (st'.1 1) (st'.2.1 0) x f → Inv sb lw st' sp sd ss sy si lp pf (sI (sA s 1 f) 2 x)) (fun s f x hs st' f' x' h' => ?_) (fun st' f x h' => ⟨n, ad, hW, h', hD, hR, hP, hPl, hTr⟩) hm q hN et2 (fun S' hS' c1 c2 c3 => ⟨a1.trans c1.symm, ?_⟩)
      · obtain ⟨n', ad', x1, x2, x3, x4, x5, x6, x7⟩ := hs st' f' x' h'
        exact ⟨n', ad', x1, x2, x3, x4, x5, x6, x7⟩
      have hIT : IT (T'.1 1) (T'.2.1 0) (S'.1 2) (S'.2.1 1) := by
        refine ⟨k + m, q, a1, c1, fun j hj => ?_⟩
        by_cases p : j < k
        · rw [a2 j p, c2 j p]
          exact ht j p
        · obtain ⟨i, rfl⟩ : ∃ i, j = k + i := ⟨j - k, by omega⟩
          rw [a3 i (by omega), c3 i (by omega)]
          obtain ⟨c, hc, ec⟩ := pk_andE (w >>> (((8 : Int32) * nI i) &&& 31)) (m := 255) 8 (by decide)
          exact ⟨rfl, c, hc, ec⟩
      obtain ⟨n', ad', x1, x2, x3, x4, x5, x6, x7⟩ := hS' T' (S'.2.1 1) (S'.1 2) hIT
      exact ⟨n', ad', x1, x2, x3, x4, x5, x6, x7⟩
    · refine ⟨fun c => absurd (show nI (k + m) ≤ nI 80 from c) (nI_ge (by omega) (by omega)), fun _ => ⟨fun _ => ?_, fun c => absurd rfl c⟩⟩
      exact wc_yes (lo := 1) (hi := 4) hm1 hm (by omega) ⟨fun _ => ⟨fun c => absurd (show nI (k + m) ≤ nI 80 from c) (nI_ge (by omega) (by omega)), fun _ => ⟨rfl, keep⟩⟩, fun c => absurd c (by decide)⟩
  · have five : ∀ {A B : Prop}, A → ((v < 1 → A) ∧ (¬ v < 1 → ((v ≤ 4 → B) ∧ (¬ v ≤ 4 → A)))) := by
      intro A B hA
      refine ⟨fun _ => hA, fun c1 => ⟨fun c2 => ?_, fun _ => hA⟩⟩
      exfalso
      obtain ⟨j, hj, e⟩ := nI_of (x := v) (fun c => c1 (Int32.lt_trans c (by decide)))
      subst e
      have h1 := (nI_leI (a := 1) (b := j) (by omega) hj).mp (i_nlt.mp c1)
      have h2 := (nI_leI (a := j) (b := 4) hj (by omega)).mp c2
      exact hv ⟨j, h1, h2, rfl⟩
    refine five ?_
    exact wc_no (lo := 1) (hi := 4) (by omega) (by omega) hv ⟨fun c => absurd rfl c, fun _ => ⟨rfl, keep⟩⟩
end FEED
