/-! how many are safe -/
theorem cz_up1 {g g' : Nat → Bool} {p : Nat} (h1 : g p = true) (h0 : g' p = false) (hq : ∀ q, q ≠ p → g' q = g q) : ∀ n, p < n → cz g n = cz g' n + 1
  | 0, h => absurd h (by omega)
  | n + 1, h => by
    rw [cz_s, cz_s]
    by_cases z : n = p
    · subst z
      rw [cz_un n (fun q hq' => hq q (by omega)), h1, h0]
      rfl
    · rw [cz_up1 h1 h0 hq n (by omega), hq n z]
      omega
theorem cz_z {g : Nat → Bool} (h : ∀ q, g q = false) : ∀ n, cz g n = 0
  | 0 => rfl
  | n + 1 => by rw [cz_s, cz_z h n, h n]; rfl
theorem len_cz {n : Nat} : ∀ (op : List Nat), op.Nodup → (∀ q, q ∈ op → q < n) → cz (fun q => decide (q ∈ op)) n = op.length
  | [], _, _ => cz_z (fun q => by simp) n
  | a :: l, hn, hb => by
    obtain ⟨h1, h2⟩ := List.nodup_cons.mp hn
    rw [List.length_cons, ← len_cz l h2 (fun q hq => hb q (List.mem_cons_of_mem _ hq))]
    exact cz_up1 (p := a) (by simp) (by simp [h1]) (fun q hq => by simp [hq]) n (hb a (by simp))
theorem cz_4 (A : Nat → Bool) : ∀ n, cz A (4 * n) = cz (fun q => A (4 * q)) n + cz (fun q => A (4 * q + 1)) n + cz (fun q => A (4 * q + 2)) n + cz (fun q => A (4 * q + 3)) n
  | 0 => rfl
  | n + 1 => by
    have e4 : cz A (4 * (n + 1)) = cz A (4 * n + 3) + (if A (4 * n + 3) then 1 else 0) := cz_s A (4 * n + 3)
    have e3 : cz A (4 * n + 3) = cz A (4 * n + 2) + (if A (4 * n + 2) then 1 else 0) := cz_s A (4 * n + 2)
    have e2 : cz A (4 * n + 2) = cz A (4 * n + 1) + (if A (4 * n + 1) then 1 else 0) := cz_s A (4 * n + 1)
    have e1 : cz A (4 * n + 1) = cz A (4 * n) + (if A (4 * n) then 1 else 0) := cz_s A (4 * n)
    rw [e4, e3, e2, e1, cz_4 A n, cz_s, cz_s, cz_s, cz_s]
    omega
/-- places that differ at never laws alone -/
def eqv : List Lw → Nat → Nat → Prop
  | [], _, _ => True
  | l :: ls, p, q => (l.1 = 0 ∨ p % 4 = q % 4) ∧ eqv ls (p / 4) (q / 4)
theorem eqv_s : ∀ {ls : List Lw} {p q : Nat}, eqv ls p q → eqv ls q p
  | [], _, _, _ => trivial
  | _ :: _, _, _, h => ⟨h.1.imp id Eq.symm, eqv_s h.2⟩
theorem eqv_r : ∀ (ls : List Lw) (p : Nat), eqv ls p p
  | [], _ => trivial
  | _ :: ls, p => ⟨Or.inr rfl, eqv_r ls (p / 4)⟩
theorem gst_eqv : ∀ {ls : List Lw} {p q : Nat} (t : Nat), (∀ l ∈ ls, ∀ s t z, s < 4 → nx l s t = some z → z < 4) → eqv ls p q → (gst ls p t = none ∧ gst ls q t = none) ∨ ∃ x y, gst ls p t = some x ∧ gst ls q t = some y ∧ eqv ls x y
  | [], _, _, _, _, _ => Or.inr ⟨0, 0, rfl, rfl, trivial⟩
  | l :: ls, p, q, t, hls, h => by
    have hp : p % 4 < 4 := Nat.mod_lt _ (by omega)
    have hq : q % 4 < 4 := Nat.mod_lt _ (by omega)
    rcases gst_eqv t (fun l' hl' => hls l' (List.mem_cons_of_mem _ hl')) h.2 with ⟨a, b⟩ | ⟨x, y, a, b, c⟩
    · refine Or.inl ⟨?_, ?_⟩
      · simp only [gst, a]
        cases nx l (p % 4) t <;> rfl
      · simp only [gst, b]
        cases nx l (q % 4) t <;> rfl
    · by_cases z : l.1 = 0
      · by_cases e : l.2.2.1 t = true
        · refine Or.inl ⟨?_, ?_⟩
          · simp only [gst, a, nx, z, e, if_true]
          · simp only [gst, b, nx, z, e, if_true]
        · refine Or.inr ⟨p % 4 + 4 * x, q % 4 + 4 * y, ?_, ?_, Or.inl z, ?_⟩
          · simp only [gst, a, nx, z, e, if_true]
            rfl
          · simp only [gst, b, nx, z, e, if_true]
            rfl
          · rw [show (p % 4 + 4 * x) / 4 = x by omega, show (q % 4 + 4 * y) / 4 = y by omega]
            exact c
      · have e := h.1.resolve_left z
        cases hx : nx l (q % 4) t with
        | none =>
          refine Or.inl ⟨?_, ?_⟩
          · simp only [gst, a, e, hx]
          · simp only [gst, b, hx]
        | some s =>
          have hs := hls l (by simp) _ _ _ hq hx
          refine Or.inr ⟨s + 4 * x, s + 4 * y, ?_, ?_, Or.inr (by omega), ?_⟩
          · simp only [gst, a, e, hx]
          · simp only [gst, b, hx]
          · rw [show (s + 4 * x) / 4 = x by omega, show (s + 4 * y) / 4 = y by omega]
            exact c
theorem Lst_eqv {ls : List Lw} (hls : ∀ l ∈ ls, ∀ s t z, s < 4 → nx l s t = some z → z < 4) : ∀ {m p q : Nat}, eqv ls p q → Lst ls m p → Lst ls m q
  | 0, _, _, _, h => h
  | m + 1, p, q, he, ⟨i, hi, hh⟩ => ⟨i, hi, fun o ho q' e => by
    rcases gst_eqv (8 * i + o) hls he with ⟨a, b⟩ | ⟨x, y, a, b, c⟩
    · rw [b] at e
      cases e
    · rw [b] at e
      cases e
      exact Lst_eqv hls c (hh o ho x a)⟩
theorem Safe_eqv {ls : List Lw} (hls : ∀ l ∈ ls, ∀ s t z, s < 4 → nx l s t = some z → z < 4) {p q : Nat} (h : eqv ls p q) : Safe ls p ↔ Safe ls q := ⟨fun a m c => a m (Lst_eqv hls (eqv_s h) c), fun a m c => a m (Lst_eqv hls h c)⟩
noncomputable def dC (hs : List Nat) (A : Nat → Bool) (q : Nat) : Bool := @decide (inC hs q ∧ A q = true) (Classical.propDecidable _)
theorem dC_t {hs : List Nat} {A : Nat → Bool} {q : Nat} : dC hs A q = true ↔ inC hs q ∧ A q = true := by
  unfold dC
  exact @decide_eq_true_iff _ (Classical.propDecidable _)
noncomputable def sf (ls : List Lw) (q : Nat) : Bool := @decide (Safe ls q) (Classical.propDecidable _)
theorem sf_t {ls : List Lw} {q : Nat} : sf ls q = true ↔ Safe ls q := by
  unfold sf
  exact @decide_eq_true_iff _ (Classical.propDecidable _)
def zc : List Lw → Nat
  | [] => 0
  | l :: ls => (if l.1 = 0 then 1 else 0) + zc ls
theorem zc_app : ∀ (a b : List Lw), zc (a ++ b) = zc a + zc b
  | [], b => by rw [List.nil_append]; show _ = 0 + _; omega
  | l :: a, b => by
    show (if l.1 = 0 then 1 else 0) + zc (a ++ b) = (if l.1 = 0 then 1 else 0) + zc a + zc b
    rw [zc_app a b]
    omega
theorem b_eq {a b : Bool} (h : a = true ↔ b = true) : a = b := by
  cases a <;> cases b <;> simp_all
theorem cnt_eqv : ∀ (ls : List Lw) (A : Nat → Bool), (∀ p q, eqv ls p q → A p = A q) → cz A (4 ^ ls.length) = cz (dC (ls.map (hv 1)) A) (4 ^ ls.length) * 4 ^ zc ls
  | [], A, _ => by
    show (0 + if A 0 then 1 else 0) = (0 + if dC [] A 0 then 1 else 0) * 1
    rw [show dC [] A 0 = A 0 from b_eq (dC_t.trans ⟨fun h => h.2, fun h => ⟨rfl, h⟩⟩)]
    omega
  | l :: ls, A, h => by
    rw [List.length_cons, Nat.pow_succ, Nat.mul_comm _ 4, cz_4, cz_4]
    by_cases z : l.1 = 0
    · have e0 : hv 1 l = 0 := if_pos z
      have hA : ∀ d, d < 4 → ∀ q, A (4 * q + d) = A (4 * q) := fun d hd q => h _ _ ⟨Or.inl z, by rw [show (4 * q + d) / 4 = q by omega, show 4 * q / 4 = q by omega]; exact eqv_r _ _⟩
      have d0 : (fun q => dC ((l :: ls).map (hv 1)) A (4 * q)) = dC (ls.map (hv 1)) (fun q => A (4 * q)) := by
        funext q
        refine b_eq (dC_t.trans (Iff.trans ?_ dC_t.symm))
        show (4 * q % 4 ≤ hv 1 l ∧ inC (ls.map (hv 1)) (4 * q / 4)) ∧ _ ↔ _
        rw [show 4 * q / 4 = q by omega]
        exact ⟨fun c => ⟨c.1.2, c.2⟩, fun c => ⟨⟨by omega, c.1⟩, c.2⟩⟩
      have dz : ∀ d, 0 < d → d < 4 → ∀ n, cz (fun q => dC ((l :: ls).map (hv 1)) A (4 * q + d)) n = 0 := by
        intro d hd hd4 n
        refine cz_z (fun q => ?_) n
        cases hb : dC ((l :: ls).map (hv 1)) A (4 * q + d) with
        | false => rfl
        | true =>
          have c : (4 * q + d) % 4 ≤ hv 1 l := (dC_t.mp hb).1.1
          omega
      rw [d0, dz 1 (by omega) (by omega), dz 2 (by omega) (by omega), dz 3 (by omega) (by omega), show (fun q => A (4 * q + 1)) = (fun q => A (4 * q)) from funext (hA 1 (by omega)), show (fun q => A (4 * q + 2)) = (fun q => A (4 * q)) from funext (hA 2 (by omega)), show (fun q => A (4 * q + 3)) = (fun q => A (4 * q)) from funext (hA 3 (by omega)), cnt_eqv ls (fun q => A (4 * q)) (fun p q hpq => h _ _ ⟨Or.inl z, by rw [show 4 * p / 4 = p by omega, show 4 * q / 4 = q by omega]; exact hpq⟩)]
      show _ = _ * 4 ^ ((if l.1 = 0 then 1 else 0) + zc ls)
      simp only [Nat.add_zero]
      rw [if_pos z, Nat.pow_add, Nat.pow_one, Nat.mul_left_comm]
      omega
    · have e3 : hv 1 l = 3 := by
        unfold hv
        rw [if_neg z, if_neg (by decide)]
      have dd : ∀ d, d < 4 → (fun q => dC ((l :: ls).map (hv 1)) A (4 * q + d)) = dC (ls.map (hv 1)) (fun q => A (4 * q + d)) := by
        intro d hd
        funext q
        refine b_eq (dC_t.trans (Iff.trans ?_ dC_t.symm))
        show ((4 * q + d) % 4 ≤ hv 1 l ∧ inC (ls.map (hv 1)) ((4 * q + d) / 4)) ∧ _ ↔ _
        rw [show (4 * q + d) / 4 = q by omega]
        exact ⟨fun c => ⟨c.1.2, c.2⟩, fun c => ⟨⟨by omega, c.1⟩, c.2⟩⟩
      have hd : ∀ d, d < 4 → cz (fun q => A (4 * q + d)) (4 ^ ls.length) = cz (dC (ls.map (hv 1)) (fun q => A (4 * q + d))) (4 ^ ls.length) * 4 ^ zc ls := fun d hd => cnt_eqv ls (fun q => A (4 * q + d)) (fun p q hpq => h _ _ ⟨Or.inr (by omega), by rw [show (4 * p + d) / 4 = p by omega, show (4 * q + d) / 4 = q by omega]; exact hpq⟩)
      have x0 := hd 0 (by omega)
      have d0 := dd 0 (by omega)
      simp only [Nat.add_zero] at x0 d0
      rw [d0, dd 1 (by omega), dd 2 (by omega), dd 3 (by omega), x0, hd 1 (by omega), hd 2 (by omega), hd 3 (by omega)]
      show _ = _ * 4 ^ ((if l.1 = 0 then 1 else 0) + zc ls)
      rw [if_neg z, Nat.zero_add, Nat.add_mul, Nat.add_mul, Nat.add_mul]
section COUNT
variable {N : Nat} {sb : RS} {lw : Nat → Option Nat} {st sp sd sd' ss sy : RS} {si : Nat → Option Nat} {lp : List Nat} {pf : Nat → RS} {S S' : RS}
theorem e_nevers {n set : Nat} {ad : Nat → Nat} {wa : Int32} {so nu : Nat → Int32} {fi se : Nat → Int64} {byt ow wo ea re gu le : Nat → Int32} {Q : Int32 → Prop} (hN : 100 ≤ N) (hW : IW n ad (sb.1 2) lw lp pf wa so nu fi se byt ow wo ea re gu le) (h : Q (nI (4 ^ zc ((mem set n).map (lawL so nu fi se))))) : fX5_placesOfNevers N sb lw lp pf (nI set) Q := by
  obtain ⟨hn, ec, -, hl, -, -⟩ := hW
  have key := loop_i (σ := Int32) (fun w j x => fX5_placesOfNevers_4 N sb lw lp pf (nI set) (fun x13 => Q x13) Q w x (nI j)) (fun j x => x = nI (4 ^ zc ((mem set j).map (lawL so nu fi se)))) n ?_ ?_ N 0 1 (by omega) (by omega) rfl
  · exact key
  · rintro w x rfl
    exact lp_end ec h
  · rintro w j x hj rfl ih
    refine lp_in ec (by omega) hj (e_isIn (by omega) ?_)
    rw [bt_nI (by omega)]
    refine sel (fun cb => ⟨vp_in_nI (by omega) (by omega), ?_⟩) (fun cb => nm_r (nI_1 j) (ih _ ?_))
    · obtain ⟨a1, a2, ⟨b1, -⟩, ⟨⟨a, ha, ea⟩, -⟩⟩ := hl j hj
      have ez : zc ((mem set (j + 1)).map (lawL so nu fi se)) = zc ((mem set j).map (lawL so nu fi se)) + (if a = 0 then 1 else 0) := by
        rw [mem_succ, if_pos cb, List.map_append, zc_app]
        show _ + ((if (so j).toNatClampNeg = 0 then 1 else 0) + 0) = _
        rw [ea, nI_clamp (by omega)]
        rfl
      rw [nI_clamp (by omega)]
      refine ⟨ad j, a1, a2, ?_⟩
      rw [b1, ea]
      refine ⟨fun c => nm_r (nI_1 j) (ih _ ?_), fun c => ?_⟩
      · rw [ez, if_neg (fun z => c (by rw [z]; rfl))]
        rfl
      · have z := (nI_eq (b := 0) (by omega) (by omega)).mp c
        rw [if_pos z] at ez
        rw [show (4 : Int32) = nI 4 from rfl, pk_mul, ← Nat.pow_succ]
        exact nm_e (nm_r (nI_1 j) (ih _ (by rw [ez])))
    · rw [mem_succ, if_neg (by rw [cb]; decide), List.append_nil]
theorem step_8 (hN : 1100 ≤ N) (h : Inv sb lw st sp sd ss sy si lp pf S) (v : Int32) : cL_8 N sb lw st sp sd ss sy si lp pf S v Inv := by
  have keep := h
  obtain ⟨n, ad, hW, hT, hD, hR, hP, hPl, hTr⟩ := h
  obtain ⟨hn, ec, ew, hl, inj, hz⟩ := id hW
  unfold cL_8 fX5_safe fX6_safe
  by_cases hv' : isS n 5 v
  · obtain ⟨set, h0, hs, hl5, rfl⟩ := hv'
    refine e_isSet5_yes (lim := 5) ec hn (by omega) h0 hs hl5 ⟨fun _ => ?_, fun c => absurd c (by decide)⟩
    have el : (LL S set n).length = (mem set n).length := List.length_map ..
    refine e_lay3 hN hW hl5 (fun G op hL => ?_)
    obtain ⟨hG, hO, hnd, hmem, hhl, hol⟩ := hL
    have hf := law_hi (set := set) hW 1
    refine e_solve hN (CL_of (by rw [List.length_map]; exact hl5) hf) (inC_0 _) hG hO hnd hmem (fun G' hSD => ?_)
    obtain ⟨r, op', hr, ⟨-, ⟨e6, -, -⟩, hnd', hmem', -⟩, hfin⟩ := hSD
    have hfin := hfin.resolve_right (fun c => absurd c.1 (by decide))
    show fX5_placesOfNevers N sb lw lp pf (nI set) _
    refine e_nevers (by omega) hW ?_
    rw [e6, pk_mul]
    refine e_isSet6_yes (lim := 5) (by omega) ew hn (by omega) h0 hs hl5 ⟨fun _ => e_tkSafe hN hW hl5 (fun S4 g4 k4 t4 z4 => ?_), fun c => absurd c (by decide)⟩
    have hX := p4 hl5
    have hls : ∀ l ∈ LL S set n, ∀ s t z, s < 4 → nx l s t = some z → z < 4 := by
      intro l hl' s t z hs' hz'
      obtain ⟨w, hw, rfl⟩ := List.mem_map.mp hl'
      have hwn : w < n := by
        unfold mem at hw
        rw [List.mem_filter, List.mem_range] at hw
        exact hw.1
      obtain ⟨-, -, -, ⟨-, ⟨m, hm, em⟩, -⟩⟩ := hl w hwn
      have := nx_lt (show (S.2.1 4 w).toNatClampNeg ≤ 3 by rw [em, nI_clamp (by omega)]; exact hm) (show s ≤ 3 by omega) hz'
      omega
    have main : op'.length * 4 ^ zc (LL S set n) = cz (nz (S4.2.1 19)) (4 ^ (mem set n).length) := by
      have c1 := cnt_eqv (LL S set n) (sf (LL S set n)) (fun p q hpq => b_eq (sf_t.trans ((Safe_eqv hls hpq).trans sf_t.symm)))
      rw [el] at c1
      have c2 : cz (nz (S4.2.1 19)) (4 ^ (mem set n).length) = cz (sf (LL S set n)) (4 ^ (mem set n).length) := cz_un _ (fun q hq => b_eq (Iff.trans (by unfold nz; exact decide_eq_true_iff) ((z4 q hq).trans sf_t.symm)))
      have hin : ∀ q, q ∈ op' ↔ inC ((LL S set n).map (hv 1)) q ∧ Safe (LL S set n) q := fun q => (hmem' q).trans ⟨fun c => ⟨c.1, hfin q c.1 c.2⟩, fun c => ⟨c.1, c.2 r⟩⟩
      have c3 : cz (fun q => decide (q ∈ op')) (4 ^ (mem set n).length) = op'.length := len_cz op' hnd' (fun q hq => by
        have := inC_lt ((hin q).mp hq).1
        rw [List.length_map, el] at this
        exact this)
      have c4 : cz (fun q => decide (q ∈ op')) (4 ^ (mem set n).length) = cz (dC ((LL S set n).map (hv 1)) (sf (LL S set n))) (4 ^ (mem set n).length) := cz_un _ (fun q _ => b_eq (decide_eq_true_iff.trans ((hin q).trans (Iff.trans ⟨fun c => ⟨c.1, sf_t.mpr c.2⟩, fun c => ⟨c.1, sf_t.mp c.2⟩⟩ dC_t.symm))))
      rw [c2, c1, ← c4, c3]
    have key := loop_i (σ := Int32) (fun w j x => fX6_safe_24 N S4 (fun x12 => (nI (op'.length * 4 ^ zc (LL S set n)) = x12 ∧ Inv sb lw st sp G' ss sy si lp pf S4)) (fun r2 S1 => (nI (op'.length * 4 ^ zc (LL S set n)) = r2 ∧ Inv sb lw st sp G' ss sy si lp pf S1)) w x (nI j)) (fun j x => x = nI (cz (nz (S4.2.1 19)) j)) (4 ^ (mem set n).length) ?_ ?_ N 0 0 (Nat.zero_le _) (by omega) rfl
    · exact key
    · rintro w x rfl
      exact lp_end k4 ⟨by rw [main], Inv_gf keep g4⟩
    · rintro w j x hj rfl ih
      refine lp_in k4 (by omega) hj ⟨vp_in_nI (by omega) (by omega), ?_⟩
      rw [nI_clamp (by omega)]
      refine ⟨fun c => nm_e (nm_r (nI_1 j) (ih _ ?_)), fun c => nm_e (nm_r (nI_1 j) (ih _ ?_))⟩
      · rw [cz_s, show nz (S4.2.1 19) j = false from decide_eq_false (fun z => z c)]
        exact nI_add _ 0
      · rw [cz_s, show nz (S4.2.1 19) j = true from decide_eq_true c]
        exact nI_add _ 1
  · refine e_isSet5_no (lim := 5) ec hn (by omega) hv' ⟨fun c => absurd rfl c, fun _ => ?_⟩
    exact e_isSet6_no (lim := 5) (by omega) ew hn (by omega) hv' ⟨fun c => absurd rfl c, fun _ => ⟨rfl, keep⟩⟩
end COUNT
