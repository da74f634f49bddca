/-! sets of wants -/
theorem pcn_mem {set n : Nat} (hs : set < 2 ^ n) (hn : n ≤ 20) : pcn set = (mem set n).length := by
  rw [mem_len]
  unfold pcn rkn
  rw [show (20 : Nat) = n + (20 - n) by omega, fb_ct_split]
  have : fb_ct (fun k => set.testBit (n + k)) (20 - n) = 0 := fb_ct_zero.mpr (fun k hk => hi_bit hs (by omega))
  omega
/-- a number that names a set of at most so many wants -/
def isS (n lim : Nat) (v : Int32) : Prop := ∃ set, 0 < set ∧ set < 2 ^ n ∧ (mem set n).length ≤ lim ∧ v = nI set
section SETS
variable {N : Nat}
theorem p20 {n : Nat} (hn : n ≤ 20) : 2 ^ n ≤ 1048576 := Nat.le_trans (Nat.pow_le_pow_right (by omega) hn) (by decide)
theorem e_isSet5_yes {sb : RS} {n lim set : Nat} {Q : Int32 → Prop} (hc : sb.1 2 = nI n) (hn : n ≤ 20) (hlim : lim < 100) (h0 : 0 < set) (hs : set < 2 ^ n) (hl : (mem set n).length ≤ lim) (h : Q 1) : fX5_isSet N sb (nI set) (nI lim) Q := by
  have h20 := p20 hn
  unfold fX5_isSet
  rw [hc, ush_c (by omega) (by omega), Nat.div_eq_of_lt hs]
  refine ⟨fun c => absurd c (nI_nle h0 (by omega)), fun _ => ⟨fun c => absurd rfl c, fun _ => e_bitCount (s_20 hs hn) ?_⟩⟩
  rw [pcn_mem hs hn]
  exact ⟨fun c => absurd c (nI_nlt hl (by omega)), fun _ => h⟩
theorem e_isSet5_no {sb : RS} {n lim : Nat} {v : Int32} {Q : Int32 → Prop} (hc : sb.1 2 = nI n) (hn : n ≤ 20) (hlim : lim < 100) (hv : ¬ isS n lim v) (h : Q 0) : fX5_isSet N sb v (nI lim) Q := by
  have h20 := p20 hn
  unfold fX5_isSet
  refine ⟨fun _ => h, fun c => ?_⟩
  obtain ⟨j, hj, e⟩ := nI_of (x := v) (fun z => c (Int32.le_of_lt z))
  subst e
  have h0 : 0 < j := by
    rcases Nat.eq_zero_or_pos j with z | z
    · subst z; exact absurd (Int32.le_refl _) c
    · exact z
  rw [hc, ush_c (by omega) (by omega)]
  refine ⟨fun _ => h, fun c2 => ?_⟩
  have hs : j < 2 ^ n := by
    have := (nI_eq (a := j / 2 ^ n) (b := 0) (Nat.lt_of_le_of_lt (Nat.div_le_self _ _) hj) (by omega)).mp c2
    rcases Nat.lt_or_ge j (2 ^ n) with z | z
    · exact z
    · have := Nat.div_pos z (Nat.two_pow_pos n)
      omega
  refine e_bitCount (s_20 hs hn) ⟨fun _ => h, fun c3 => absurd ⟨j, h0, hs, ?_, rfl⟩ hv⟩
  rw [pcn_mem hs hn] at c3
  have : (mem j n).length ≤ n := by rw [mem_len]; exact rkn_le j n
  rw [nI_ltI (by omega) (by omega)] at c3
  omega
theorem e_isSet6_yes {S : RS} {n lim set : Nat} {Q : Int32 → Prop} (hN : 30 ≤ N) (hc : S.1 13 = nI n) (hn : n ≤ 20) (hlim : lim < 100) (h0 : 0 < set) (hs : set < 2 ^ n) (hl : (mem set n).length ≤ lim) (h : Q 1) : fX6_isSet N S (nI set) (nI lim) Q := by
  have h20 := p20 hn
  unfold fX6_isSet
  rw [hc, shl_1 (by omega)]
  refine ⟨fun c => absurd c (nI_nle h0 (by omega)), fun _ => ⟨fun c => absurd c (nI_ge hs (by omega)), fun _ => e_countBits hN (by omega) ?_⟩⟩
  rw [pcn_mem hs hn]
  exact ⟨fun c => absurd c (nI_nlt hl (by omega)), fun _ => h⟩
theorem e_isSet6_no {S : RS} {n lim : Nat} {v : Int32} {Q : Int32 → Prop} (hN : 30 ≤ N) (hc : S.1 13 = nI n) (hn : n ≤ 20) (hlim : lim < 100) (hv : ¬ isS n lim v) (h : Q 0) : fX6_isSet N S v (nI lim) Q := by
  have h20 := p20 hn
  unfold fX6_isSet
  refine ⟨fun _ => h, fun c => ?_⟩
  obtain ⟨j, hj, e⟩ := nI_of (x := v) (fun z => c (Int32.le_of_lt z))
  subst e
  have h0 : 0 < j := by
    rcases Nat.eq_zero_or_pos j with z | z
    · subst z; exact absurd (Int32.le_refl _) c
    · exact z
  rw [hc, shl_1 (by omega)]
  refine ⟨fun _ => h, fun c2 => ?_⟩
  have hs : j < 2 ^ n := by
    rw [nI_leI (by omega) (by omega)] at c2
    omega
  refine e_countBits hN hj ⟨fun _ => h, fun c3 => absurd ⟨j, h0, hs, ?_, rfl⟩ hv⟩
  rw [pcn_mem hs hn] at c3
  have : (mem j n).length ≤ n := by rw [mem_len]; exact rkn_le j n
  rw [nI_ltI (by omega) (by omega)] at c3
  omega
theorem inC_0 (hs : List Nat) : inC hs 0 := by
  induction hs with
  | nil => rfl
  | cons a hs ih => exact ⟨Nat.zero_le _, ih⟩
theorem CL_of {ls : List Lw} {f : Lw → Nat} (h5 : ls.length ≤ 5) (hf : ∀ l, l ∈ ls → hi1 l ≤ f l ∧ f l ≤ 3) : CL ls (inC (ls.map f)) := by
  refine ⟨fun q hq => Nat.lt_of_lt_of_le (inC_lt hq) (pw5 (by rw [List.length_map]; exact h5)), fun p t q hp _ e => gst_cl hf hp e⟩
end SETS
