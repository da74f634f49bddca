/-! the reference takes a set -/
/-- what a game of the reference may change -/
def gf (S S' : RS) : Prop := (∀ j, j ≠ 16 → j ≠ 17 → j ≠ 38 → S'.1 j = S.1 j) ∧ (∀ j, j ≠ 14 → j ≠ 15 → j ≠ 18 → j ≠ 19 → j ≠ 20 → S'.2.1 j = S.2.1 j) ∧ S'.2.2.2 = S.2.2.2
theorem gf_0 (S : RS) : gf S S := ⟨fun _ _ _ _ => rfl, fun _ _ _ _ _ _ => rfl, rfl⟩
theorem gf_I {S S' : RS} (h : gf S S') {k : Nat} (hk : k = 16 ∨ k = 17 ∨ k = 38) (x : Int32) : gf S (sI S' k x) := ⟨fun j a b c => by rw [← h.1 j a b c]; exact up_ne (by omega), h.2.1, h.2.2⟩
theorem gf_A {S S' : RS} (h : gf S S') {k : Nat} (hk : k = 14 ∨ k = 15 ∨ k = 18 ∨ k = 19 ∨ k = 20) (x : Nat → Int32) : gf S (sA S' k x) := ⟨h.1, fun j a b c d e => by rw [← h.2.1 j a b c d e]; exact up_ne (by omega), h.2.2⟩
theorem e_takeSet {N n set : Nat} {S : RS} {Q : RS → Prop} (hN : 100 ≤ N) (hc : S.1 13 = nI n) (hn : n ≤ 20) (h5 : (mem set n).length ≤ 5) (h : ∀ S', gf S S' → S'.1 16 = nI (mem set n).length → (∀ i w, (mem set n)[i]? = some w → S'.2.1 14 i = nI w ∧ S'.2.1 15 i = S.2.1 4 w) → Q S') : fX6_takeSet N S (nI set) Q := by
  unfold fX6_takeSet
  refine nm_e ?_
  have key := loop_i (σ := RS) (fun w j s => fX6_takeSet_7 N (nI set) (fun S8 => Q S8) Q w (nI j) s) (fun j s => gf S s ∧ s.1 16 = nI (mem set j).length ∧ (∀ i w, (mem set j)[i]? = some w → s.2.1 14 i = nI w ∧ s.2.1 15 i = S.2.1 4 w)) n (fun w s ⟨a, b, c⟩ => lp_end ((a.1 13 (by decide) (by decide) (by decide)).trans hc) (h s a b c)) ?_ N 0 (sI S 16 0) (by omega) (by omega) ⟨gf_I (gf_0 S) (Or.inl rfl) 0, rfl, fun i w hw => (by simp [mem] at hw)⟩
  · exact key
  · rintro w j s hj ⟨a, b, c⟩ ih
    refine lp_in ((a.1 13 (by decide) (by decide) (by decide)).trans hc) (by omega) hj ?_
    rw [sshr_bit (by omega), bt_nI (by omega)]
    refine sel1 (fun cb => ⟨vp_in_nI (by omega) (by omega), ?_⟩) (fun cb => nm_r (nI_1 j) (ih s ⟨a, ?_, ?_⟩))
    · have hr := rkn_lt hj cb
      rw [← mem_len] at hr
      have hl5 : (mem set j).length < 5 := by omega
      rw [nI_clamp (by omega), show s.2.1 4 = S.2.1 4 from a.2.1 4 (by decide) (by decide) (by decide) (by decide) (by decide)]
      unfold fX6_add
      refine ⟨by rw [b]; exact vp_in_nI hl5 (by omega), nm_e ⟨?_, nm_e (nm_e (nm_r (nI_1 j) (ih _ ⟨gf_I (gf_A (gf_A a (Or.inl rfl) _) (Or.inr (Or.inl rfl)) _) (Or.inl rfl) _, ?_, fun i x hx => ?_⟩)))⟩⟩
      · show vp_in (s.1 16) 5
        rw [b]
        exact vp_in_nI hl5 (by omega)
      · show s.1 16 + 1 = _
        rw [b, nI_1, mem_succ, if_pos cb, List.length_append]
        rfl
      · show upd (s.2.1 14) (s.1 16).toNatClampNeg (nI j) i = nI x ∧ upd (s.2.1 15) (s.1 16).toNatClampNeg (S.2.1 4 j) i = S.2.1 4 x
        rw [b, nI_clamp (by omega)]
        rw [mem_succ, if_pos cb] at hx
        by_cases z : i < (mem set j).length
        · rw [List.getElem?_append_left z] at hx
          rw [pk_un (by omega), pk_un (by omega)]
          exact c i x hx
        · rw [List.getElem?_append_right (by omega)] at hx
          have z2 : i = (mem set j).length := by
            have := (List.getElem?_eq_some_iff.mp hx).1
            rw [List.length_singleton] at this
            omega
          subst z2
          rw [Nat.sub_self] at hx
          cases hx
          rw [pk_us, pk_us]
          exact ⟨rfl, rfl⟩
    · rw [mem_succ, if_neg (by rw [cb]; decide), List.append_nil]
      exact b
    · rw [mem_succ, if_neg (by rw [cb]; decide), List.append_nil]
      exact c
