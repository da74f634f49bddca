/-! a set of wants, laid -/
def hv (v3 : Int32) (l : Lw) : Nat := if l.1 = 0 then 0 else if v3 = 0 then l.2.1 else 3
theorem hv_0 : hv 0 = hi1 := by
  funext l
  unfold hv hi1
  by_cases c : l.1 = 0
  · rw [if_pos c, if_pos c]
  · rw [if_neg c, if_neg c, if_pos rfl]
section LAID
variable {N : Nat}
theorem e_lay3 {n set : Nat} {ad : Nat → Nat} {sb sd : RS} {lw : Nat → Option Nat} {lp : List Nat} {pf : Nat → RS} {wa v3 : Int32} {so nu : Nat → Int32} {fi se : Nat → Int64} {byt ow wo ea re gu le : Nat → Int32} {Q : RS → Prop} (hN : 1100 ≤ N) (hW : IW n ad (sb.1 2) lw lp pf wa so nu fi se byt ow wo ea re gu le) (h5 : (mem set n).length ≤ 5) (h : ∀ sd' op, LY ((mem set n).map (lawL so nu fi se)) (((mem set n).map (lawL so nu fi se)).map (hv v3)) op sd' → Q sd') : fX5_lay3 N sb lw sd lp pf (nI set) v3 Q := by
  obtain ⟨hn, ec, ew, hl, inj, hz⟩ := hW
  refine e_begin (fun G0 hG0 => ?_)
  have key := loop_i (σ := RS) (fun w j s => fX5_lay3_7 N sb lw lp pf (nI set) v3 (fun sd16 => Q sd16) Q w (nI j) s) (fun j s => ∃ op, LY ((mem set j).map (lawL so nu fi se)) (((mem set j).map (lawL so nu fi se)).map (hv v3)) op s) n (fun w s ⟨op, hs⟩ => lp_end ec (h s op hs)) ?_ N 0 G0 (by omega) (by omega) ⟨[0], hG0⟩
  · exact key
  · rintro w j s hj ⟨op, hs⟩ ih
    have ej : (nI j).toNatClampNeg = j := nI_clamp (by omega)
    have hvj : vp_in (nI j) 20 := vp_in_nI (by omega) (by omega)
    obtain ⟨a1, a2, ⟨b1, b2, b3, b4, -⟩, ⟨⟨a, ha, ea⟩, ⟨m, hm, em⟩, -⟩⟩ := hl j hj
    refine lp_in ec (by omega) hj (e_isIn (by omega) ?_)
    rw [bt_nI (by omega)]
    refine sel (fun c => ?_) (fun c => ?_)
    · refine ⟨hvj, ad j, by rw [ej]; exact a1, hvj, ad j, by rw [ej]; exact a1, a2, a2, ?_⟩
      rw [b2, em]
      have hlen : ((mem set j).map (lawL so nu fi se)).length < 5 := by
        rw [List.length_map]
        have := rkn_lt hj c
        rw [← mem_len] at this
        omega
      refine e_enter hN hs hlen ha hm (b1.trans ea) (fun G' op' hG' => nm_r (nI_1 j) (ih G' ⟨op', ?_⟩))
      rw [mem_succ, if_pos c, List.map_append, List.map_append]
      have el : lawL so nu fi se j = (a, m, tb ((pf (ad j)).2.2.1 2), tb ((pf (ad j)).2.2.1 3)) := by
        unfold lawL
        rw [ea, em, nI_clamp (by omega), nI_clamp (by omega), b3, b4]
      show LY (_ ++ [lawL so nu fi se j]) (_ ++ [hv v3 (lawL so nu fi se j)]) op' G'
      rw [el]
      exact hG'
    · refine nm_r (nI_1 j) (ih s ⟨op, ?_⟩)
      rw [mem_succ, if_neg (by rw [c]; decide), List.append_nil]
      exact hs
theorem e_lay4 {n set : Nat} {ad : Nat → Nat} {sb sd : RS} {lw : Nat → Option Nat} {lp : List Nat} {pf : Nat → RS} {wa v3 : Int32} {so nu : Nat → Int32} {fi se : Nat → Int64} {byt ow wo ea re gu le : Nat → Int32} {Q : RS → Prop} (hN : 1100 ≤ N) (hW : IW n ad (sb.1 2) lw lp pf wa so nu fi se byt ow wo ea re gu le) (h5 : (mem set n).length ≤ 5) (h : ∀ sd' op, LY ((mem set n).map (lawL so nu fi se)) (((mem set n).map (lawL so nu fi se)).map (hv v3)) op sd' → Q sd') : fX5_lay4 N sb lw sd lp pf (nI set) v3 Q := by
  obtain ⟨hn, ec, ew, hl, inj, hz⟩ := hW
  refine e_begin (fun G0 hG0 => ?_)
  have key := loop_i (σ := RS) (fun w j s => fX5_lay4_7 N sb lw lp pf (nI set) v3 (fun sd16 => Q sd16) Q w (nI j) s) (fun j s => ∃ op, LY ((mem set j).map (lawL so nu fi se)) (((mem set j).map (lawL so nu fi se)).map (hv v3)) op s) n (fun w s ⟨op, hs⟩ => lp_end ec (h s op hs)) ?_ N 0 G0 (by omega) (by omega) ⟨[0], hG0⟩
  · exact key
  · rintro w j s hj ⟨op, hs⟩ ih
    have ej : (nI j).toNatClampNeg = j := nI_clamp (by omega)
    have hvj : vp_in (nI j) 20 := vp_in_nI (by omega) (by omega)
    obtain ⟨a1, a2, ⟨b1, b2, b3, b4, -⟩, ⟨⟨a, ha, ea⟩, ⟨m, hm, em⟩, -⟩⟩ := hl j hj
    refine lp_in ec (by omega) hj (e_isIn (by omega) ?_)
    rw [bt_nI (by omega)]
    refine sel (fun c => ?_) (fun c => ?_)
    · refine ⟨hvj, ad j, by rw [ej]; exact a1, hvj, ad j, by rw [ej]; exact a1, a2, a2, ?_⟩
      rw [b2, em]
      have hlen : ((mem set j).map (lawL so nu fi se)).length < 5 := by
        rw [List.length_map]
        have := rkn_lt hj c
        rw [← mem_len] at this
        omega
      refine e_enter hN hs hlen ha hm (b1.trans ea) (fun G' op' hG' => nm_r (nI_1 j) (ih G' ⟨op', ?_⟩))
      rw [mem_succ, if_pos c, List.map_append, List.map_append]
      have el : lawL so nu fi se j = (a, m, tb ((pf (ad j)).2.2.1 2), tb ((pf (ad j)).2.2.1 3)) := by
        unfold lawL
        rw [ea, em, nI_clamp (by omega), nI_clamp (by omega), b3, b4]
      show LY (_ ++ [lawL so nu fi se j]) (_ ++ [hv v3 (lawL so nu fi se j)]) op' G'
      rw [el]
      exact hG'
    · refine nm_r (nI_1 j) (ih s ⟨op, ?_⟩)
      rw [mem_succ, if_neg (by rw [c]; decide), List.append_nil]
      exact hs
end LAID
/-- ticks keep within the places -/
theorem nx_cl {l : Lw} {h s t z : Nat} (hh : hi1 l ≤ h) (hs : s ≤ h) (e : nx l s t = some z) : z ≤ h := by
  unfold nx at e
  unfold hi1 at hh
  by_cases c0 : l.1 = 0
  · rw [if_pos c0] at e
    split at e
    · cases e
    · cases e
      exact hs
  · rw [if_neg c0] at e hh
    split at e
    · split at e
      · cases e; omega
      · split at e
        · split at e
          · cases e
          · cases e; omega
        · split at e
          · split at e
            · cases e
            · cases e; omega
          · cases e; omega
    · split at e
      · cases e
      · split at e
        · cases e; omega
        · cases e; omega
theorem gst_cl {ls : List Lw} {f : Lw → Nat} (hf : ∀ l, l ∈ ls → hi1 l ≤ f l ∧ f l ≤ 3) {p t q : Nat} (hp : inC (ls.map f) p) (e : gst ls p t = some q) : inC (ls.map f) q := by
  induction ls generalizing p q with
  | nil =>
    cases e
    rfl
  | cons a ls ih =>
    have e : (match nx a (p % 4) t, gst ls (p / 4) t with | some s, some q => some (s + 4 * q) | _, _ => none) = some q := e
    cases ha : nx a (p % 4) t with
    | none => rw [ha] at e; cases e
    | some s =>
      cases hb : gst ls (p / 4) t with
      | none => rw [ha, hb] at e; cases e
      | some q' =>
        rw [ha, hb] at e
        cases e
        have h1 := nx_cl (hf a (List.mem_cons_self ..)).1 hp.1 ha
        have h3 := (hf a (List.mem_cons_self ..)).2
        have h2 := ih (fun l hl => hf l (List.mem_cons_of_mem _ hl)) hp.2 hb
        refine ⟨?_, ?_⟩
        · show (s + 4 * q') % 4 ≤ f a
          omega
        · show inC (ls.map f) ((s + 4 * q') / 4)
          rw [show (s + 4 * q') / 4 = q' by omega]
          exact h2
