/-! can it be obeyed: the class -/
section OBEY
variable {N : Nat}
theorem e_lostIn0 {G : RS} {Q : Int32 → Prop} (h : Q (G.2.1 7 0)) : fX0_lostIn N G 0 Q :=
  ⟨fun c => absurd c (by decide), fun _ => ⟨fun c => absurd c (by decide), fun _ => ⟨fun c => absurd c (by decide), fun _ => ⟨vp_in_nI (n := 0) (by omega) (by omega), h⟩⟩⟩⟩
theorem law_hi {n set : Nat} {ad : Nat → Nat} {cnt wa : Int32} {lw : Nat → Option Nat} {lp : List Nat} {pf : Nat → RS} {so nu : Nat → Int32} {fi se : Nat → Int64} {byt ow wo ea re gu le : Nat → Int32} (hW : IW n ad cnt lw lp pf wa so nu fi se byt ow wo ea re gu le) (v3 : Int32) : ∀ l, l ∈ (mem set n).map (lawL so nu fi se) → hi1 l ≤ hv v3 l ∧ hv v3 l ≤ 3 := by
  intro l hl
  obtain ⟨w, hw, rfl⟩ := List.mem_map.mp hl
  have hwn : w < n := by
    unfold mem at hw
    rw [List.mem_filter, List.mem_range] at hw
    exact hw.1
  obtain ⟨-, -, -, ⟨-, ⟨m, hm, em⟩, -⟩⟩ := hW.2.2.2.1 w hwn
  have e : (lawL so nu fi se w).2.1 = m := by
    show (nu w).toNatClampNeg = m
    rw [em, nI_clamp (by omega)]
  unfold hi1 hv
  rw [e]
  split
  · omega
  · split <;> omega
theorem e_isObeyable {n set : Nat} {ad : Nat → Nat} {sb sd : RS} {lw : Nat → Option Nat} {lp : List Nat} {pf : Nat → RS} {wa : Int32} {so nu : Nat → Int32} {fi se : Nat → Int64} {byt ow wo ea re gu le : Nat → Int32} {Q : Int32 → RS → Prop} (hN : 1100 ≤ N) (hW : IW n ad (sb.1 2) lw lp pf wa so nu fi se byt ow wo ea re gu le) (h5 : (mem set n).length ≤ 5) (h : ∀ sd' r, r ≤ 1024 → SD ((mem set n).map (lawL so nu fi se)) (inC (((mem set n).map (lawL so nu fi se)).map hi1)) 0 sd' → sd'.2.1 7 0 = nI r → Rk ((mem set n).map (lawL so nu fi se)) 0 r → Q (if r = 0 then 1 else 0) sd') : fX5_isObeyable N sb lw sd lp pf (nI set) Q := by
  refine e_lay3 hN hW h5 (fun G op hL => ?_)
  rw [hv_0] at hL
  obtain ⟨hG, hO, hnd, hmem, hhl, hol⟩ := hL
  have hf := law_hi (set := set) hW 0
  rw [hv_0] at hf
  refine e_solve hN (CL_of (by rw [List.length_map]; exact h5) hf) (inC_0 _) hG hO hnd hmem (fun G' hD => e_lostIn0 ?_)
  obtain ⟨r, hr, er, hR⟩ := SD_0 hD (inC_0 _)
  have hq := h G' r hr hD er hR
  rw [er]
  refine ⟨fun c => ?_, fun c => ?_⟩
  · rw [if_neg (fun z => c (by rw [z]; rfl))] at hq
    exact hq
  · rw [if_pos ((nI_eq (b := 0) (by omega) (by omega)).mp c)] at hq
    exact hq
end OBEY
