/-! the reference's game: where a tick leads -/
/-- the reference's table of steps lies as the laws say -/
def ST (ls : List Lw) (S : RS) : Prop := ls.length ≤ 5 ∧ S.1 16 = nI ls.length ∧ ∀ i l, ls[i]? = some l → ∀ s, s < 4 → ∀ t, t < 64 → S.2.1 18 ((4 * i + s) * 64 + t) = (match nx l s t with | none => -4 | some z => nI z) ∧ (∀ z, nx l s t = some z → z < 4)
theorem e_behind {N p t : Nat} {ls : List Lw} {S : RS} {Q : Int32 → Prop} (hN : 100 ≤ N) (hS : ST ls S) (hp : p < 2 ^ 31) (ht : t < 64) (h : Q (match gst ls p t with | none => -1 | some q => nI q)) : fX6_behind N S (nI p) (nI t) Q := by
  obtain ⟨h5, h16, htab⟩ := hS
  have key : ∀ (w i e : Nat), i ≤ ls.length → ls.length - i < w → gst (ls.take i) p t = some e → fX6_behind_11 N S (nI t) (fun x9 => Q x9) Q w (nI e) (nI (4 ^ i)) (nI (p / 4 ^ i)) (nI i) := by
    intro w
    induction w with
    | zero => intro i e _ hw; omega
    | succ w ih =>
      intro i e hi hw he
      by_cases q : i = ls.length
      · subst q
        rw [List.take_length] at he
        rw [he] at h
        exact lp_end h16 h
      · have hi2 : i < ls.length := by omega
        obtain ⟨l, hl, et, el⟩ := take_in hi2
        obtain ⟨htb, hz4⟩ := htab i l hl (p / 4 ^ i % 4) (Nat.mod_lt _ (by omega)) t ht
        have hm4 : p / 4 ^ i % 4 < 4 := Nat.mod_lt _ (by omega)
        have eix : (((((4 : Int32) * nI i) + (nI (p / 4 ^ i) - nI (p / 4 ^ i) / (4 : Int32) * (4 : Int32))) * (64 : Int32)) + nI t) = nI ((4 * i + p / 4 ^ i % 4) * 64 + t) := by
          rw [show (4 : Int32) = nI 4 from rfl, show (64 : Int32) = nI 64 from rfl, pk_rem (Nat.lt_of_le_of_lt (Nat.div_le_self _ _) hp) (by omega) (by omega), pk_mul, nI_add, pk_mul, nI_add]
        refine lp_in h16 (by omega) hi2 ?_
        rw [eix, nI_clamp (by omega), htb]
        refine ⟨vp_in_nI (by omega) (by omega), nm_e ?_⟩
        have hs := gst_snoc (ls.take i) l p t
        rw [← et, el, he] at hs
        cases hx : nx l (p / 4 ^ i % 4) t with
        | none =>
          rw [hx] at hs
          refine ⟨fun c => absurd c (by decide), fun _ => ?_⟩
          cases hg : gst ls p t with
          | none => rw [hg] at h; exact h
          | some q' =>
            have := gst_take (i + 1) (show (gst ls p t).isSome = true by rw [hg]; rfl)
            rw [hs] at this
            cases this
        | some z =>
          rw [hx] at hs
          have hz := hz4 z hx
          refine ⟨fun _ => ?_, fun c => absurd (nI_pos' (by omega)) c⟩
          rw [show (4 : Int32) = nI 4 from rfl, pk_mul, nI_add, pk_mul, pk_div (Nat.lt_of_le_of_lt (Nat.div_le_self _ _) hp) (by omega) (by omega), Nat.div_div_eq_div_mul, ← Nat.pow_succ]
          exact nm_e (nm_e (nm_e (nm_r (nI_1 i) (ih (i + 1) _ hi2 (by omega) hs))))
  unfold fX6_behind
  have k0 := key N 0 0 (by omega) (by omega) rfl
  rw [Nat.pow_zero, Nat.div_one] at k0
  exact k0
