/-! the places of a game, laid out -/
theorem inC_snoc {hs : List Nat} {h q : Nat} (hh : h ≤ 3) : inC (hs ++ [h]) q ↔ inC hs (q % 4 ^ hs.length) ∧ q / 4 ^ hs.length ≤ h := by
  induction hs generalizing q with
  | nil =>
    show (q % 4 ≤ h ∧ q / 4 = 0) ↔ (q % 1 = 0 ∧ q / 1 ≤ h)
    rw [Nat.div_one, Nat.mod_one]
    omega
  | cons a hs ih =>
    show (q % 4 ≤ a ∧ inC (hs ++ [h]) (q / 4)) ↔ ((q % 4 ^ (hs.length + 1)) % 4 ≤ a ∧ inC hs (q % 4 ^ (hs.length + 1) / 4)) ∧ q / 4 ^ (hs.length + 1) ≤ h
    rw [ih, Nat.pow_succ, Nat.mul_comm (4 ^ hs.length) 4, Nat.mod_mul_right_mod, Nat.mod_mul_right_div_self, Nat.div_div_eq_div_mul]
    exact ⟨fun ⟨a, b, c⟩ => ⟨⟨a, b⟩, c⟩, fun ⟨⟨a, b⟩, c⟩ => ⟨a, b, c⟩⟩
def opw (op : List Nat) (K : Nat) : Nat → List Nat
  | 0 => op
  | v + 1 => opw op K v ++ op.map (fun x => x + (v + 1) * K)
theorem opw_len (op : List Nat) (K v : Nat) : (opw op K v).length = op.length * (v + 1) := by
  induction v with
  | zero => show op.length = _; omega
  | succ v ih =>
    show (opw op K v ++ _).length = _
    rw [List.length_append, List.length_map, ih, Nat.mul_add op.length (v + 1) 1]
    omega
theorem opw_mem {op : List Nat} {K : Nat} (hK : 0 < K) (hop : ∀ x, x ∈ op → x < K) (v q : Nat) : q ∈ opw op K v ↔ q % K ∈ op ∧ q / K ≤ v := by
  induction v with
  | zero =>
    show q ∈ op ↔ _
    constructor
    · intro h
      have := hop q h
      rw [Nat.mod_eq_of_lt this, Nat.div_eq_of_lt this]
      exact ⟨h, Nat.le_refl _⟩
    · rintro ⟨h1, h2⟩
      have h3 := Nat.mod_add_div q K
      rw [Nat.le_zero.mp h2, Nat.mul_zero, Nat.add_zero] at h3
      rw [← h3]
      exact h1
  | succ v ih =>
    show q ∈ opw op K v ++ op.map (fun x => x + (v + 1) * K) ↔ _
    rw [List.mem_append, ih, List.mem_map]
    constructor
    · rintro (⟨h1, h2⟩ | ⟨x, hx, rfl⟩)
      · exact ⟨h1, by omega⟩
      · have := hop x hx
        rw [Nat.add_mul_mod_self_right, Nat.mod_eq_of_lt this, Nat.add_mul_div_right _ _ hK, Nat.div_eq_of_lt this]
        exact ⟨hx, by omega⟩
    · rintro ⟨h1, h2⟩
      by_cases c : q / K ≤ v
      · exact Or.inl ⟨h1, c⟩
      · refine Or.inr ⟨q % K, h1, ?_⟩
        have h3 := Nat.mod_add_div q K
        rw [show q / K = v + 1 by omega, Nat.mul_comm] at h3
        exact h3
theorem opw_nd {op : List Nat} {K : Nat} (hK : 0 < K) (hop : ∀ x, x ∈ op → x < K) (hn : op.Nodup) (v : Nat) : (opw op K v).Nodup := by
  induction v with
  | zero => exact hn
  | succ v ih =>
    show List.Pairwise _ (opw op K v ++ op.map (fun x => x + (v + 1) * K))
    rw [List.pairwise_append, List.pairwise_map]
    refine ⟨ih, List.Pairwise.imp (fun h e => h (by omega)) hn, fun a ha b hb e => ?_⟩
    obtain ⟨_, h2⟩ := (opw_mem hK hop v a).mp ha
    obtain ⟨x, hx, rfl⟩ := List.mem_map.mp hb
    have := hop x hx
    rw [e, Nat.add_mul_div_right _ _ hK, Nat.div_eq_of_lt this] at h2
    omega
section LAY
variable {N : Nat} {G : RS}
/-- rows five and slot six -/
def wS (G : RS) (c : Int32) (a5 : Nat → Int32) : RS := sI (sA G 5 a5) 6 c
theorem wS_a (G : RS) (c : Int32) (a5 b5 : Nat → Int32) : sA (wS G c a5) 5 b5 = wS G c b5 := by
  show sI (sA (sA G 5 a5) 5 b5) 6 c = _
  rw [sA_2]
  rfl
theorem wS_c (G : RS) (c d : Int32) (a5 : Nat → Int32) : sI (wS G c a5) 6 d = wS G d a5 := sI_2 _ _ _ _
theorem OL_snoc {op : List Nat} {q : Nat} {c : Int32} {a5 : Nat → Int32} (h : OL op c a5) (hl : op.length < 1024) : OL (op ++ [q]) (c + 1) (upd a5 op.length (nI q)) := by
  obtain ⟨h1, h2, h3⟩ := h
  refine ⟨by rw [h1, nI_1, List.length_append]; rfl, by rw [List.length_append, List.length_singleton]; omega, fun j x hx => ?_⟩
  by_cases z : j < op.length
  · rw [List.getElem?_append_left z] at hx
    rw [pk_un (by omega)]
    exact h3 j x hx
  · rw [List.getElem?_append_right (by omega)] at hx
    have z2 : j = op.length := by
      have := (List.getElem?_eq_some_iff.mp hx).1
      rw [List.length_singleton] at this
      omega
    subst z2
    rw [Nat.sub_self] at hx
    cases hx
    rw [pk_us]
theorem e_widen {i h : Nat} {op : List Nat} {Q : RS → Prop} (hN : 1100 ≤ N) (hi : i < 5) (hh : h ≤ 3) (e0 : G.1 0 = nI i) (hO : OL op (G.1 6) (G.2.1 5)) (hop : ∀ x, x ∈ op → x < 4 ^ i) (hlen : op.length ≤ 4 ^ i) (hQ : ∀ a5, OL (opw op (4 ^ i) h) (nI (opw op (4 ^ i) h).length) a5 → Q (wS G (nI (opw op (4 ^ i) h).length) a5)) : fX0_widen N G (nI h) Q := by
  have h4 : (4 : Nat) ^ i ≤ 256 := Nat.le_trans (Nat.pow_le_pow_right (by omega) (show i ≤ 4 by omega)) (by decide)
  have e4 : (4 : Nat) ^ i = 2 ^ (2 * i) := by rw [Nat.pow_mul]
  have hO' := hO
  obtain ⟨ec, hl, h5⟩ := hO
  have hpos : 0 < (4 : Nat) ^ i := Nat.pow_pos (by omega)
  unfold fX0_widen
  rw [ec]
  refine nm_e ?_
  have outer := loop_i (σ := Nat → Int32) (fun w v a5 => fX0_widen_7 N (nI h) (nI op.length) (fun G13 => Q G13) Q w (nI (v + 1)) (wS G (nI (opw op (4 ^ i) v).length) a5)) (fun v a5 => OL (opw op (4 ^ i) v) (nI (opw op (4 ^ i) v).length) a5) h (fun w a5 hs => ⟨fun _ => hQ a5 hs, fun c => absurd (nI_lt (by omega) (by omega)) c⟩) ?_ N 0 (G.2.1 5) (by omega) (by omega) ⟨rfl, hl, h5⟩
  · have e : wS G (nI op.length) (G.2.1 5) = G := by
      unfold wS
      rw [sI_self]
      · unfold sA
        refine Prod.ext rfl (Prod.ext (funext fun j => ?_) rfl)
        show up G.2.1 5 (G.2.1 5) j = G.2.1 j
        by_cases q : j = 5
        · subst q
          rw [up_same]
        · rw [up_ne q]
      · exact ec
    have outer : fX0_widen_7 N (nI h) (nI op.length) (fun G13 => Q G13) Q N (nI 1) (wS G (nI op.length) (G.2.1 5)) := outer
    rw [e] at outer
    exact outer
  · intro w v a5 hv hs ih
    refine ⟨fun c => absurd c (nI_nlt (by omega) (by omega)), fun _ => ⟨fun c => absurd (show nI 4 ≤ nI (v + 1) from c) (nI_ge (by omega) (by omega)), fun _ => ?_⟩⟩
    have hlo : (opw op (4 ^ i) v).length ≤ 768 := by
      rw [opw_len]
      have : op.length * (v + 1) ≤ 256 * 3 := Nat.mul_le_mul (by omega) (by omega)
      omega
    have inner := loop_i (σ := Nat → Int32) (fun w' j b5 => fX0_widen_20 N (nI h) (nI op.length) (nI (v + 1)) (fun G11 => (∀ x12 : Int32, x12 = nI (v + 1) + 1 → fX0_widen_7 N (nI h) (nI op.length) (fun G13 => Q G13) Q w x12 G11)) Q w' (nI j) (wS G (nI (opw op (4 ^ i) v ++ (op.take j).map (fun x => x + (v + 1) * 4 ^ i)).length) b5)) (fun j b5 => OL (opw op (4 ^ i) v ++ (op.take j).map (fun x => x + (v + 1) * 4 ^ i)) (nI (opw op (4 ^ i) v ++ (op.take j).map (fun x => x + (v + 1) * 4 ^ i)).length) b5) op.length ?_ ?_ N 0 a5 (by omega) (by omega) (by simpa using hs)
    · have inner2 : fX0_widen_20 N (nI h) (nI op.length) (nI (v + 1)) (fun G11 => (∀ x12 : Int32, x12 = nI (v + 1) + 1 → fX0_widen_7 N (nI h) (nI op.length) (fun G13 => Q G13) Q w x12 G11)) Q N 0 (wS G (nI (opw op (4 ^ i) v ++ []).length) a5) := inner
      rw [List.append_nil] at inner2
      exact inner2
    · intro w' b5 hb
      rw [List.take_length] at hb ⊢
      exact lp_end rfl (nm_r (nI_1 (v + 1)) (ih b5 hb))
    · intro w' j b5 hj hb ih2
      obtain ⟨p, hp⟩ : ∃ p, op[j]? = some p := ⟨op[j], List.getElem?_eq_getElem hj⟩
      have et : op.take (j + 1) = op.take j ++ [p] := by rw [List.take_succ, hp]; rfl
      have hp4 := hop p (List.mem_of_getElem? hp)
      have ll : (opw op (4 ^ i) v ++ (op.take j).map (fun x => x + (v + 1) * 4 ^ i)).length < 1024 := by
        rw [List.length_append, List.length_map, List.length_take]
        omega
      have hbp : b5 j = nI p := by
        refine hb.2.2 j p ?_
        have : ∀ u, (opw op (4 ^ i) u)[j]? = some p := by
          intro u
          induction u with
          | zero => exact hp
          | succ u ihu =>
            show (opw op (4 ^ i) u ++ _)[j]? = some p
            rw [List.getElem?_append_left (List.getElem?_eq_some_iff.mp ihu).1]
            exact ihu
        rw [List.getElem?_append_left (List.getElem?_eq_some_iff.mp (this v)).1]
        exact this v
      refine lp_in rfl (by omega) hj ?_
      show ((1024 ≤ nI (opw op (4 ^ i) v ++ (op.take j).map (fun x => x + (v + 1) * 4 ^ i)).length → _) ∧ _)
      refine ⟨fun c => absurd (show nI 1024 ≤ nI _ from c) (nI_ge ll (by omega)), fun _ => ⟨vp_in_nI (by omega) (by omega), vp_in_nI ll (by omega), nm_e (nm_e (nm_r (nI_1 j) ?_))⟩⟩
      have ev : b5 (nI j).toNatClampNeg ||| (nI (v + 1) <<< (((2 : Int32) * (G.1 0)) &&& 31)) = nI (p + (v + 1) * 4 ^ i) := by
        rw [nI_clamp (by omega), hbp, e0, show (2 : Int32) * nI i = nI (2 * i) from pk_mul 2 i, pk_shlN (n := v + 1) (nI (2 * i) &&& 31) (2 * i) (s_l (2 * i) (by omega)) (by rw [← e4]; have : (v + 1) * 4 ^ i ≤ 4 * 256 := Nat.mul_le_mul (by omega) h4; omega), fa_or, Nat.or_comm, Nat.mul_comm (v + 1), ← Nat.two_pow_add_eq_or_of_lt (by rw [← e4]; exact hp4), Nat.add_comm, ← e4, Nat.mul_comm]
      rw [wS_a]
      show fX0_widen_20 N _ _ _ _ _ w' (nI (j + 1)) (sI (wS G _ (upd b5 (nI (opw op (4 ^ i) v ++ (op.take j).map (fun x => x + (v + 1) * 4 ^ i)).length).toNatClampNeg (b5 (nI j).toNatClampNeg ||| (nI (v + 1) <<< (((2 : Int32) * (G.1 0)) &&& 31))))) 6 (nI (opw op (4 ^ i) v ++ (op.take j).map (fun x => x + (v + 1) * 4 ^ i)).length + 1))
      rw [wS_c, ev, nI_clamp (by omega)]
      have em : opw op (4 ^ i) v ++ (op.take (j + 1)).map (fun x => x + (v + 1) * 4 ^ i) = (opw op (4 ^ i) v ++ (op.take j).map (fun x => x + (v + 1) * 4 ^ i)) ++ [p + (v + 1) * 4 ^ i] := by
        rw [et, List.map_append, List.append_assoc]
        rfl
      have o2 := OL_snoc (q := p + (v + 1) * 4 ^ i) hb ll
      have fin := ih2 _ (by rw [em]; have o3 := o2; rw [nI_1] at o3; rw [List.length_append, List.length_singleton]; exact o3)
      rw [em, List.length_append (bs := [p + (v + 1) * 4 ^ i]), List.length_singleton] at fin
      rw [show nI (opw op (4 ^ i) v ++ (op.take j).map (fun x => x + (v + 1) * 4 ^ i)).length + 1 = _ from nI_1 _]
      exact fin
end LAY
