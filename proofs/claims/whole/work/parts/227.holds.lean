theorem e_holdsOut {N p : Nat} {ls : List Lw} {S : RS} {Q : Int32 → Prop} (hN : 100 ≤ N) (hS : ST ls S) (hp : p < 2 ^ 31) (hq : ∀ t, t < 64 → ∀ q, gst ls p t = some q → q < 1024) (h1 : (∀ i, i < 8 → ∃ o, o < 8 ∧ ∃ q, gst ls p (8 * i + o) = some q ∧ ¬ S.2.1 19 q = 0) → Q 1) (h0 : ∀ i, i < 8 → (∀ o, o < 8 → ∀ q, gst ls p (8 * i + o) = some q → S.2.1 19 q = 0) → Q 0) : fX6_holdsOut N S (nI p) Q := by
  have inner : ∀ (i : Nat) (K : Int32 → Prop), i < 8 → ((∃ o, o < 8 ∧ ∃ q, gst ls p (8 * i + o) = some q ∧ ¬ S.2.1 19 q = 0) → K 1) → ((∀ o, o < 8 → ∀ q, gst ls p (8 * i + o) = some q → S.2.1 19 q = 0) → K 0) → ∀ (w o : Nat), o ≤ 8 → 8 - o + 1 < w → (∀ o', o' < o → ∀ q, gst ls p (8 * i + o') = some q → S.2.1 19 q = 0) → fX6_holdsOut_13 N S (nI p) (nI i) K Q w 0 (nI o) := by
    intro i K hi k1 k0 w
    induction w with
    | zero => intro o _ hw; omega
    | succ w ih =>
      intro o ho hw hb
      by_cases q8 : o = 8
      · subst q8
        exact lp_end (m := 8) (n := 8) rfl (k0 hb)
      · have ho8 : o < 8 := by omega
        refine lp_in (m := 8) (n := 8) rfl (by omega) ho8 ⟨fun c => absurd rfl c, fun _ => ?_⟩
        rw [show (8 : Int32) * nI i = nI (8 * i) from pk_mul 8 i, nI_add]
        refine e_behind hN hS hp (by omega) ?_
        have go : (∀ q, gst ls p (8 * i + o) = some q → S.2.1 19 q = 0) → fX6_holdsOut_13 N S (nI p) (nI i) K Q w 0 (nI (o + 1)) := by
          intro hh
          refine ih (o + 1) (by omega) (by omega) (fun o' ho' q e => ?_)
          by_cases z : o' = o
          · subst z
            exact hh q e
          · exact hb o' (by omega) q e
        cases hg : gst ls p (8 * i + o) with
        | none => exact ⟨fun _ => nm_r (nI_1 o) (go (fun q e => by rw [hg] at e; cases e)), fun c => absurd (by decide) c⟩
        | some q =>
          have hq1 := hq _ (by omega) q hg
          refine ⟨fun c => absurd c (nI_pos (by omega)), fun _ => ⟨vp_in_nI hq1 (by omega), ?_⟩⟩
          show ((S.2.1 19 (nI q).toNatClampNeg = 0 → _) ∧ (¬ S.2.1 19 (nI q).toNatClampNeg = 0 → _))
          rw [nI_clamp (by omega)]
          refine ⟨fun c => nm_r (nI_1 o) (go (fun q' e => by rw [hg] at e; cases e; exact c)), fun c => nm_r (nI_1 o) ?_⟩
          obtain ⟨w, rfl⟩ : ∃ w', w = w' + 1 := ⟨w - 1, by omega⟩
          have kk := k1 ⟨o, ho8, q, hg, c⟩
          refine ⟨fun _ => kk, fun _ => ⟨fun _ => kk, fun c => absurd c (by decide)⟩⟩
  have outer : ∀ (w i : Nat), i ≤ 8 → 8 - i < w → (∀ i', i' < i → ∃ o, o < 8 ∧ ∃ q, gst ls p (8 * i' + o) = some q ∧ ¬ S.2.1 19 q = 0) → fX6_holdsOut_2 N S (nI p) (Q 1) Q w (nI i) := by
    intro w
    induction w with
    | zero => intro i _ hw; omega
    | succ w ih =>
      intro i hi hw hb
      by_cases q8 : i = 8
      · subst q8
        exact lp_end (m := 8) (n := 8) rfl (h1 hb)
      · have hi8 : i < 8 := by omega
        refine lp_in (m := 8) (n := 8) rfl (by omega) hi8 (inner i _ hi8 (fun hh => ⟨fun _ => nm_r (nI_1 i) (ih (i + 1) (by omega) (by omega) (fun i' hi' => ?_)), fun c => absurd c (by decide)⟩) (fun hh => ⟨fun c => absurd rfl c, fun _ => h0 i hi8 hh⟩) N 0 (by omega) (by omega) (fun o' ho' => absurd ho' (by omega)))
        by_cases z : i' = i
        · subst z
          exact hh
        · exact hb i' (by omega)
  exact outer N 0 (by omega) (by omega) (fun i' hi' => absurd hi' (by omega))
