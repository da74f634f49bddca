/-! today, giveUp, about, clear, told, part, use, lead, count and their like -/
section SIMPLE
variable {N : Nat} {sb st sp sd ss sy S : RS} {lw si : Nat → Option Nat} {lp : List Nat} {pf : Nat → RS}
theorem step_0 (h : Inv sb lw st sp sd ss sy si lp pf S) (v : Int32) : cL_0 N sb lw st sp sd ss sy si lp pf S v Inv := by
  have keep := h
  obtain ⟨n, ad, hW, hT, ⟨hd, k, hk, ek⟩, hR, hP, hPl, hTr⟩ := h
  unfold cL_0 fX5_today fX6_today fX6_within
  rw [hd]
  by_cases c1 : v < S.1 0
  · exact ⟨fun _ => wi_no (Or.inl c1) ⟨fun c => absurd rfl c, fun _ => ⟨rfl, keep⟩⟩, fun c => absurd c1 c⟩
  · refine ⟨fun c => absurd c c1, fun _ => ⟨fun c2 => nm_e (nm_e ?_), fun c2 => ?_⟩⟩
    · refine wi_yes c1 (i_nlt.mpr c2) ⟨fun _ => nm_e (nm_e ⟨rfl, ?_⟩), fun c => absurd c (by decide)⟩
      have h0 : ¬ v < 0 := fun c => by
        have a1 := Int32.le_iff_toInt_le.mp (i_nlt.mp c1)
        have a2 := Int32.lt_iff_toInt_lt.mp c
        rw [ek, nI_toInt (by omega)] at a1
        have : (0 : Int32).toInt = 0 := rfl
        omega
      obtain ⟨j, hj, e⟩ := nI_of h0
      have hj2 : j ≤ 9999 := by
        rw [e] at c2
        exact (nI_leI hj (by omega)).mp (show nI j ≤ nI 9999 from c2)
      exact ⟨n, ad, hW, hT, ⟨rfl, j, hj2, e⟩, hR, hP, hPl, hTr⟩
    · exact wi_no (Or.inr (i_nle.mp c2)) ⟨fun c => absurd rfl c, fun _ => ⟨rfl, keep⟩⟩
theorem step_20 (h : Inv sb lw st sp sd ss sy si lp pf S) : cL_20 N sb lw st sp sd ss sy si lp pf S Inv := by
  obtain ⟨n, ad, hW, hT, hD, ⟨k, hk, e1, e2, hf⟩, hP, hPl, hTr⟩ := h
  unfold cL_20 fX5_clear fX6_clear
  refine nm_e (nm_e (nm_e (nm_e ?_)))
  exact ⟨by rw [e1, e2], n, ad, hW, hT, hD, ⟨0, by omega, rfl, rfl, fun j hj => absurd hj (by omega)⟩, hP, hPl, hTr⟩
theorem step_23 (h : Inv sb lw st sp sd ss sy si lp pf S) : cL_23 N sb lw st sp sd ss sy si lp pf S Inv := by
  have keep := h
  obtain ⟨n, ad, hW, hT, hD, hR, ⟨k, hk, e1, e2, hf⟩, hPl, hTr⟩ := h
  unfold cL_23 fX5_part fX2_add fX6_part
  by_cases c : k = 20
  · refine ⟨fun c2 => absurd c2 (by rw [e1, c]; exact nI_nlt (a := 20) (b := 20) (by omega) (by omega)), fun _ => ⟨fun c2 => absurd (by rw [e2, c]; rfl) c2, fun _ => ⟨rfl, keep⟩⟩⟩
  · have hk2 : k < 20 := by omega
    refine ⟨fun _ => nm_e ⟨fun _ => nm_e ⟨?_, ?_⟩, fun c2 => absurd ((nI_eq (by omega) (by omega)).mp (show nI k = nI 20 by rw [← e2]; exact c2)) c⟩, fun c2 => absurd (show sp.1 1 < nI 20 by rw [e1]; exact nI_lt hk2 (by omega)) c2⟩
    · show sp.1 1 + 1 - 1 = S.1 32 + 1 - 1
      rw [e1, e2]
    · exact ⟨n, ad, hW, hT, hD, hR, ⟨k + 1, by omega, by show sp.1 1 + 1 = _; rw [e1]; exact nI_1 k, by show S.1 32 + 1 = _; rw [e2]; exact nI_1 k, hf⟩, hPl, hTr⟩
theorem told_small {a b : Nat} (ha : a ≤ 7) (hb : b ≤ 7) : ((8 : Int32) * nI a) + nI b = nI (8 * a + b) ∧ 8 * a + b < 64 := by
  refine ⟨?_, by omega⟩
  show nI 8 * nI a + nI b = _
  rw [pk_mul, nI_add]
theorem byte_small {c : Nat} (hc : c < 64) : vp_nar .byte ((nI c).toInt8.toInt32) = nI c := by
  rw [pk_vb]
  exact fa_byte_small (by omega)
theorem step_19 (h : Inv sb lw st sp sd ss sy si lp pf S) (v w : Int32) : cL_19 N sb lw st sp sd ss sy si lp pf S v w Inv := by
  have keep := h
  obtain ⟨n, ad, hW, hT, hD, ⟨k, hk, e1, e2, hf⟩, hP, hPl, hTr⟩ := h
  unfold cL_19 fX5_told fX6_told fX5_isWithin fX6_within
  by_cases hv : ∃ j, 0 ≤ j ∧ j ≤ 7 ∧ v = nI j
  · obtain ⟨a, -, ha, e⟩ := hv
    subst e
    refine wc_yes (lo := 0) (hi := 7) (by omega) ha (by omega) ⟨fun c => absurd c (by decide), fun _ => ?_⟩
    by_cases hw : ∃ j, 0 ≤ j ∧ j ≤ 7 ∧ w = nI j
    · obtain ⟨b, -, hb, e⟩ := hw
      subst e
      refine wc_yes (lo := 0) (hi := 7) (by omega) hb (by omega) ⟨fun _ => ?_, fun c => absurd c (by decide)⟩
      by_cases c : k = 200
      · refine ⟨fun c2 => absurd c2 (by rw [e1, c]; exact nI_nlt (a := 200) (b := 200) (by omega) (by omega)), fun _ => ?_⟩
        refine wc_yes (lo := 0) (hi := 7) (by omega) ha (by omega) ⟨fun c => absurd c (by decide), fun _ => ?_⟩
        refine wc_yes (lo := 0) (hi := 7) (by omega) hb (by omega) ⟨fun _ => ?_, fun c => absurd c (by decide)⟩
        exact ⟨fun c2 => absurd (by rw [e2, c]; rfl) c2, fun _ => ⟨rfl, keep⟩⟩
      · have hk2 : k < 200 := by omega
        obtain ⟨et, ht⟩ := told_small ha hb
        refine ⟨fun _ => ⟨by rw [e1]; exact vp_in_nI hk2 (by omega), nm_e (nm_e ?_)⟩, fun c2 => absurd (show sb.1 5 < nI 200 by rw [e1]; exact nI_lt hk2 (by omega)) c2⟩
        refine wc_yes (lo := 0) (hi := 7) (by omega) ha (by omega) ⟨fun c => absurd c (by decide), fun _ => ?_⟩
        refine wc_yes (lo := 0) (hi := 7) (by omega) hb (by omega) ⟨fun _ => ?_, fun c => absurd c (by decide)⟩
        refine ⟨fun _ => ⟨by rw [e2]; exact vp_in_nI hk2 (by omega), nm_e (nm_e ⟨?_, ?_⟩)⟩, fun c2 => absurd ((nI_eq (by omega) (by omega)).mp (show nI k = nI 200 by rw [← e2]; exact c2)) c⟩
        · show sb.1 5 + 1 = S.1 31 + 1
          rw [e1, e2]
        · refine ⟨n, ad, hW, hT, hD, ⟨k + 1, by omega, by show sb.1 5 + 1 = _; rw [e1]; exact nI_1 k, by show S.1 31 + 1 = _; rw [e2]; exact nI_1 k, ?_⟩, hP, hPl, hTr⟩
          intro j hj
          show upd (sb.2.1 4) (sb.1 5).toNatClampNeg _ j = upd (S.2.1 30) (S.1 31).toNatClampNeg _ j ∧ ∃ c, c < 64 ∧ upd (S.2.1 30) (S.1 31).toNatClampNeg _ j = nI c
          rw [e1, e2, nI_clamp (by omega), et, byte_small ht]
          by_cases q : j = k
          · subst q
            rw [pk_us, pk_us]
            exact ⟨rfl, _, ht, rfl⟩
          · rw [pk_un q, pk_un q]
            exact hf j (by omega)
    · refine wc_no (lo := 0) (hi := 7) (by omega) (by omega) hw ⟨fun c => absurd rfl c, fun _ => ?_⟩
      refine wc_yes (lo := 0) (hi := 7) (by omega) ha (by omega) ⟨fun c => absurd c (by decide), fun _ => ?_⟩
      exact wc_no (lo := 0) (hi := 7) (by omega) (by omega) hw ⟨fun c => absurd rfl c, fun _ => ⟨rfl, keep⟩⟩
  · refine wc_no (lo := 0) (hi := 7) (by omega) (by omega) hv ⟨fun _ => ?_, fun c => absurd rfl c⟩
    exact wc_no (lo := 0) (hi := 7) (by omega) (by omega) hv ⟨fun _ => ⟨rfl, keep⟩, fun c => absurd rfl c⟩
end SIMPLE
