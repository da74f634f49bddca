/-! follows: the places that are reached -/
def Rch (ls : List Lw) : Nat → Nat → Prop
  | 0, p => p = 0
  | m + 1, p => ∃ p' t, t < 64 ∧ Rch ls m p' ∧ gst ls p' t = some p
def RC (ls : List Lw) (p : Nat) : Prop := ∃ m, Rch ls m p
theorem RC_0 (ls : List Lw) : RC ls 0 := ⟨0, rfl⟩
theorem RC_s {ls : List Lw} {p q t : Nat} (h : RC ls p) (ht : t < 64) (e : gst ls p t = some q) : RC ls q := by
  obtain ⟨m, hm⟩ := h
  exact ⟨m + 1, p, t, ht, hm, e⟩
/-- the last law may break alone -/
def BA (ls : List Lw) (l : Lw) (p : Nat) : Prop := ∃ t, t < 64 ∧ (gst ls p t).isSome = true ∧ nx l (p / 4 ^ ls.length % 4) t = none
/-- places seen, with their marks -/
def VS (ls : List Lw) (C : Nat → Prop) (rw : List Nat) (mk : Nat → Int32) : Prop := rw.Nodup ∧ (∀ q, q ∈ rw → C q ∧ RC ls q) ∧ (∀ q, C q → (¬ mk q = 0 ↔ q ∈ rw)) ∧ 0 ∈ rw
def RW (rw : List Nat) (c : Int32) (a : Nat → Int32) : Prop := c = nI rw.length ∧ ∀ j q, rw[j]? = some q → a j = nI q
theorem cz_miss {g : Nat → Bool} {p : Nat} (h : g p = false) : ∀ n, p < n → cz g n < n
  | 0, hp => absurd hp (by omega)
  | n + 1, hp => by
    rw [cz_s]
    by_cases z : p = n
    · subst z
      rw [h]
      have := cz_le g p
      simp only [Bool.false_eq_true, if_false]
      omega
    · have := cz_miss h n (by omega)
      split <;> omega
theorem nd_len {rw : List Nat} {X : Nat} (h : rw.Nodup) (hb : ∀ q, q ∈ rw → q < X) : rw.length ≤ X := by
  rw [← len_cz rw h hb]
  exact cz_le _ _
theorem nd_miss {rw : List Nat} {X p : Nat} (h : rw.Nodup) (hb : ∀ q, q ∈ rw → q < X) (hp : p < X) (hn : ¬ p ∈ rw) : rw.length < X := by
  rw [← len_cz rw h hb]
  exact cz_miss (p := p) (decide_eq_false hn) X hp
theorem VS_add {ls : List Lw} {C : Nat → Prop} {rw : List Nat} {mk : Nat → Int32} {q : Nat} (h : VS ls C rw mk) (hq : C q) (hr : RC ls q) (hm : mk q = 0) : VS ls C (rw ++ [q]) (upd mk q 1) := by
  obtain ⟨h1, h2, h3, h4⟩ := h
  have hn : ¬ q ∈ rw := fun c => (h3 q hq).mpr c hm
  refine ⟨?_, fun x hx => ?_, fun x hx => ?_, by simp [h4]⟩
  · rw [List.nodup_append]
    refine ⟨h1, by simp, fun a ha b hb => ?_⟩
    rw [List.mem_singleton] at hb
    subst hb
    exact fun e => hn (by rw [← e]; exact ha)
  · rw [List.mem_append, List.mem_singleton] at hx
    rcases hx with hx | hx
    · exact h2 x hx
    · subst hx
      exact ⟨hq, hr⟩
  · rw [List.mem_append, List.mem_singleton]
    by_cases z : x = q
    · subst z
      rw [pk_us]
      exact ⟨fun _ => Or.inr rfl, fun _ => by decide⟩
    · rw [pk_un z, h3 x hx]
      exact ⟨Or.inl, fun c => c.resolve_right z⟩
theorem RW_add {rw : List Nat} {c : Int32} {a : Nat → Int32} (q : Nat) (h : RW rw c a) : RW (rw ++ [q]) (c + 1) (upd a rw.length (nI q)) := by
  refine ⟨by rw [h.1, List.length_append]; exact nI_1 _, fun j x hx => ?_⟩
  by_cases z : j < rw.length
  · rw [List.getElem?_append_left z] at hx
    rw [pk_un (by omega)]
    exact h.2 j x hx
  · rw [List.getElem?_append_right (by omega)] at hx
    have z2 : j = rw.length := by
      have := (List.getElem?_eq_some_iff.mp hx).1
      rw [List.length_singleton] at this
      omega
    subst z2
    rw [Nat.sub_self] at hx
    cases hx
    rw [pk_us]
/-- the first i places are done -/
def PR (ls : List Lw) (B : Nat → Prop) (rw : List Nat) (i : Nat) : Prop := i ≤ rw.length ∧ ∀ j, j < i → ∀ p, rw[j]? = some p → ¬ B p ∧ ∀ t, t < 64 → ∀ q, gst ls p t = some q → q ∈ rw
theorem PR_s {ls : List Lw} {B : Nat → Prop} {rw : List Nat} {i p : Nat} (ext : List Nat) (h : PR ls B rw i) (hp : rw[i]? = some p) (hb : ¬ B p) (hs : ∀ t, t < 64 → ∀ q, gst ls p t = some q → q ∈ rw ++ ext) : PR ls B (rw ++ ext) (i + 1) := by
  have hi : i < rw.length := (List.getElem?_eq_some_iff.mp hp).1
  refine ⟨by rw [List.length_append]; omega, fun j hj x hx => ?_⟩
  rw [List.getElem?_append_left (by omega)] at hx
  by_cases z : j = i
  · subst z
    rw [hp] at hx
    cases hx
    exact ⟨hb, hs⟩
  · obtain ⟨h1, h2⟩ := h.2 j (by omega) x hx
    exact ⟨h1, fun t ht q e => List.mem_append_left _ (h2 t ht q e)⟩
theorem PR_end {ls : List Lw} {C B : Nat → Prop} {rw : List Nat} {mk : Nat → Int32} (h : PR ls B rw rw.length) (hV : VS ls C rw mk) : ¬ ∃ p, RC ls p ∧ B p := by
  have all : ∀ m p, Rch ls m p → p ∈ rw := by
    intro m
    induction m with
    | zero =>
      intro p hp
      rw [show p = 0 from hp]
      exact hV.2.2.2
    | succ m ih =>
      rintro p ⟨p', t, ht, hm, e⟩
      obtain ⟨j, hj⟩ := List.getElem?_of_mem (ih p' hm)
      exact (h.2 j (List.getElem?_eq_some_iff.mp hj).1 p' hj).2 t ht p e
  rintro ⟨p, ⟨m, hm⟩, hb⟩
  obtain ⟨j, hj⟩ := List.getElem?_of_mem (all m p hm)
  exact (h.2 j (List.getElem?_eq_some_iff.mp hj).1 p hj).1 hb
theorem ne_bit {m : Int64} (h : ¬ m = 0) : ∃ t, t < 64 ∧ tb m t = true := by
  refine Classical.byContradiction (fun c => h (l_ext (fun i hi => ?_)))
  rw [tb_0]
  cases hb : tb m i with
  | false => rfl
  | true => exact absurd ⟨i, hi, hb⟩ c
section REACH
variable {N : Nat} {ls : List Lw} {G : RS} {C : Nat → Prop}
theorem e_reachFrom {rw : List Nat} {p : Nat} {Q : RS → Prop} (hN : 100 ≤ N) (hC : CL ls C) (hG : GG ls G) (hV : VS ls C rw (G.2.1 7)) (hR : RW rw (G.1 6) (G.2.1 5)) (hp : p ∈ rw) (h : ∀ G' ext, GG ls G' → VS ls C (rw ++ ext) (G'.2.1 7) → RW (rw ++ ext) (G'.1 6) (G'.2.1 5) → (∀ t, t < 64 → ∀ q, gst ls p t = some q → q ∈ rw ++ ext) → Q G') : fX0_reachFrom N G (nI p) Q := by
  obtain ⟨hCp, hRp⟩ := hV.2.1 p hp
  have hp4 := hC.1 p hCp
  unfold fX0_reachFrom
  rw [hG.2.1]
  refine e_unbroken hN hG (by omega) (Nat.le_refl _) (fun M hM => ?_)
  rw [List.take_length] at hM
  refine e_split hN hG (by omega) (fun t ht hb => by rw [← hM t ht]; exact hb) (fun c mk en hc h1 h2 => ?_)
  have key := loop_i (σ := RS) (fun w j s => fX0_reachFrom_17 N (nI c) (fun G21 => Q G21) Q w (nI j) s) (fun j s => ∃ ext, GG ls s ∧ s.2.1 9 = en ∧ s.2.2.2 8 = mk ∧ VS ls C (rw ++ ext) (s.2.1 7) ∧ RW (rw ++ ext) (s.1 6) (s.2.1 5) ∧ ∀ j', j' < j → ∀ t, t < 64 → tb (mk j') t = true → ∀ e, en j' = nI e → e < 1024 → e ∈ rw ++ ext) c ?_ ?_ N 0 (spS G mk en) (by omega) (by omega) ⟨[], hG, rfl, rfl, by rw [List.append_nil]; exact hV, by rw [List.append_nil]; exact hR, fun j' hj' => absurd hj' (by omega)⟩
  · exact key
  · rintro w s ⟨ext, a1, a2, a3, a4, a5, a6⟩
    refine lp_end rfl (h s ext a1 a4 a5 (fun t ht q e => ?_))
    obtain ⟨j, hj, hb⟩ := h2 t ht (by rw [hM t ht, e]; rfl)
    obtain ⟨e', he', ee, hx⟩ := h1 j hj
    obtain ⟨_, eg⟩ := hx t ht hb
    rw [e] at eg
    cases eg
    exact a6 j hj t ht hb q ee (hC.1 q (hC.2 p t q hCp ht e))
  · rintro w j s hj ⟨ext, a1, a2, a3, a4, a5, a6⟩ ih
    obtain ⟨e, he, ee, hx⟩ := h1 j hj
    refine lp_in rfl (by omega) hj ⟨vp_in_nI (by omega) (by omega), nm_e ⟨vp_in_nI (by omega) (by omega), ?_⟩⟩
    rw [nI_clamp (by omega), a2, a3, ee]
    have go : ∀ (s' : RS) (ext' : List Nat), GG ls s' → s'.2.1 9 = en → s'.2.2.2 8 = mk → VS ls C (rw ++ ext ++ ext') (s'.2.1 7) → RW (rw ++ ext ++ ext') (s'.1 6) (s'.2.1 5) → (∀ t, t < 64 → tb (mk j) t = true → e < 1024 → e ∈ rw ++ ext ++ ext') → fX0_reachFrom_17 N (nI c) (fun G21 => Q G21) Q w (nI (j + 1)) s' := by
      intro s' ext' b1 b2 b3 b4 b5 b6
      refine ih s' ⟨ext ++ ext', b1, b2, b3, by rw [← List.append_assoc]; exact b4, by rw [← List.append_assoc]; exact b5, fun j' hj' t ht hb e' ee' he4 => ?_⟩
      rw [← List.append_assoc]
      by_cases z : j' = j
      · subst z
        obtain ⟨-, eg⟩ := hx t ht hb
        have hec : e < 1024 := hC.1 e (hC.2 p t e hCp ht eg)
        rw [ee] at ee'
        have := (nI_eq (by omega) (by omega)).mp ee'
        subst this
        exact b6 t ht hb he4
      · exact List.mem_append_left _ (a6 j' (by omega) t ht hb e' ee' he4)
    refine ⟨fun c0 => nm_r (nI_1 j) (go s [] a1 a2 a3 (by rw [List.append_nil]; exact a4) (by rw [List.append_nil]; exact a5) (fun t _ hb _ => ?_)), fun c0 => ?_⟩
    · rw [c0, tb_0] at hb
      cases hb
    · obtain ⟨t, ht, hb⟩ := ne_bit c0
      obtain ⟨-, eg⟩ := hx t ht hb
      have hCe := hC.2 p t e hCp ht eg
      have he4 : e < 1024 := hC.1 e hCe
      refine ⟨vp_in_nI he4 (by omega), ?_⟩
      rw [nI_clamp (by omega)]
      refine ⟨fun c1 => nm_r (nI_1 j) (go s [] a1 a2 a3 (by rw [List.append_nil]; exact a4) (by rw [List.append_nil]; exact a5) (fun _ _ _ _ => ?_)), fun c1 => ?_⟩
      · rw [List.append_nil]
        exact (a4.2.2.1 e hCe).mp c1
      · have hlen : (rw ++ ext).length < 1024 := nd_miss a4.1 (fun q hq => hC.1 q (a4.2.1 q hq).1) he4 (fun c => (a4.2.2.1 e hCe).mpr c c1)
        rw [a5.1]
        refine ⟨fun c => absurd (show nI 1024 ≤ nI _ from c) (nI_ge hlen (by omega)), fun _ => ⟨vp_in_nI he4 (by omega), nm_e ⟨?_, nm_e (nm_e (nm_r (nI_1 j) ?_))⟩⟩⟩
        · show vp_in (s.1 6) 1024
          rw [a5.1]
          exact vp_in_nI hlen (by omega)
        · refine go _ [e] a1 a2 a3 (VS_add a4 hCe (RC_s hRp ht eg) c1) ?_ (fun _ _ _ _ => by simp)
          show RW (rw ++ ext ++ [e]) (s.1 6 + 1) (upd (s.2.1 5) (s.1 6).toNatClampNeg (nI e))
          rw [show (s.1 6).toNatClampNeg = (rw ++ ext).length by rw [a5.1, nI_clamp (by omega)]]
          exact RW_add e a5
theorem e_lastBreaks {l : Lw} {p : Nat} {Q : Int32 → Prop} (hN : 100 ≤ N) (hG : GG (ls ++ [l]) G) (hp : p < 2 ^ 31) (h1 : BA ls l p → Q 1) (h0 : ¬ BA ls l p → Q 0) : fX0_lastBreaksAlone N G (nI p) Q := by
  obtain ⟨h5, hsz, hmk⟩ := id hG
  rw [List.length_append, List.length_singleton] at h5 hsz
  unfold fX0_lastBreaksAlone fX0_stateAt
  rw [hsz]
  refine ⟨fun _ => ?_, fun c => absurd ((nI_eq (b := 0) (by omega) (by omega)).mp c) (by omega)⟩
  rw [show (1 : Int32) = nI 1 from rfl, pk_sub (by omega), show ls.length + 1 - 1 = ls.length by omega]
  refine nm_e ?_
  have hm4 : p / 4 ^ ls.length % 4 < 4 := Nat.mod_lt _ (by omega)
  show vp_in ((4 : Int32) * nI ls.length + (((nI p).toUInt32 >>> (((2 : Int32) * nI ls.length).toUInt32 &&& Int32.toUInt32 31)).toInt32 &&& (3 : Int32))) 20 ∧ fX0_unbroken N G (nI p) (nI ls.length) (fun r5 => ((G.2.2.2 1 ((4 : Int32) * nI ls.length + (((nI p).toUInt32 >>> (((2 : Int32) * nI ls.length).toUInt32 &&& Int32.toUInt32 31)).toInt32 &&& (3 : Int32))).toNatClampNeg &&& r5) = 0 → Q 0) ∧ (¬ (G.2.2.2 1 ((4 : Int32) * nI ls.length + (((nI p).toUInt32 >>> (((2 : Int32) * nI ls.length).toUInt32 &&& Int32.toUInt32 31)).toInt32 &&& (3 : Int32))).toNatClampNeg &&& r5) = 0 → Q 1))
  rw [st_ix hp (by omega), nI_clamp (by omega)]
  refine ⟨vp_in_nI (by omega) (by omega), e_unbroken hN hG hp (by rw [List.length_append]; omega) (fun M hM => ?_)⟩
  rw [List.take_left' rfl] at hM
  obtain ⟨A, B, -, -, -, -, hx⟩ := hmk ls.length l (by simp) (p / 4 ^ ls.length % 4) hm4
  refine ⟨fun c => h0 ?_, fun c => h1 ?_⟩
  · rintro ⟨t, ht, hs, hn⟩
    have := congrArg (fun x => tb x t) c
    simp only [tb_and, tb_0] at this
    rw [hM t ht, hs, Bool.and_true] at this
    rw [hx t ht, this] at hn
    cases hn
  · obtain ⟨t, ht, hb⟩ := ne_bit c
    rw [tb_and, hM t ht, Bool.and_eq_true] at hb
    refine ⟨t, ht, hb.2, ?_⟩
    rw [hx t ht, hb.1]
    rfl
theorem e_lastMay {l : Lw} {op : List Nat} {hs : List Nat} {Q : Int32 → RS → Prop} (hN : 1100 ≤ N) (hC : CL (ls ++ [l]) (inC hs)) (hL : LY (ls ++ [l]) hs op G) (h1 : (∃ p, RC (ls ++ [l]) p ∧ BA ls l p) → ∀ G', Q 1 G') (h0 : (¬ ∃ p, RC (ls ++ [l]) p ∧ BA ls l p) → ∀ G', Q 0 G') : fX0_lastMayBreakAlone N G Q := by
  obtain ⟨hG, ⟨o1, o2, o3⟩, hnd, hmem, -, -⟩ := hL
  have main : ∀ (w i : Nat) (s : RS) (rw : List Nat), GG (ls ++ [l]) s → VS (ls ++ [l]) (inC hs) rw (s.2.1 7) → RW rw (s.1 6) (s.2.1 5) → PR (ls ++ [l]) (BA ls l) rw i → 1025 - i < w → fX0_lastMayBreakAlone_49 N (fun G20 => Q 0 G20) Q w (nI i) s := by
    intro w
    induction w with
    | zero => intro i s rw _ _ _ _ hw; omega
    | succ w ih =>
      intro i s rw a1 a2 a3 a4 hw
      have hlen : rw.length ≤ 1024 := nd_len a2.1 (fun q hq => hC.1 q (a2.2.1 q hq).1)
      by_cases z : i = rw.length
      · subst z
        exact lp_end a3.1 (h0 (PR_end a4 a2) s)
      · have hi : i < rw.length := by have := a4.1; omega
        obtain ⟨p, hp⟩ : ∃ p, rw[i]? = some p := ⟨rw[i], List.getElem?_eq_getElem hi⟩
        have hpm : p ∈ rw := List.mem_of_getElem? hp
        have hp4 := hC.1 p (a2.2.1 p hpm).1
        refine lp_in a3.1 (by omega) hi ⟨fun c => absurd (show nI 1024 ≤ nI i from c) (nI_ge (by omega) (by omega)), fun _ => ⟨vp_in_nI (by omega) (by omega), ?_⟩⟩
        rw [nI_clamp (by omega), a3.2 i p hp]
        refine e_lastBreaks (by omega) a1 (by omega) (fun hb => ⟨fun c => absurd c (by decide), fun _ => h1 ⟨p, (a2.2.1 p hpm).2, hb⟩ s⟩) (fun hb => ⟨fun _ => ⟨vp_in_nI (by omega) (by omega), ?_⟩, fun c => absurd rfl c⟩)
        refine e_reachFrom (by omega) hC a1 a2 a3 hpm (fun G' ext b1 b2 b3 b4 => nm_r (nI_1 i) (ih (i + 1) G' (rw ++ ext) b1 b2 b3 (PR_s ext a4 hp hb b4) (by omega)))
  have key := loop_i (σ := Nat → Int32) (fun w j a7 => fX0_lastMayBreakAlone_2 N (fun G6 => (vp_in 0 1024 ∧ (∀ G8 : RS, G8 = sA G6 5 (upd (G6.2.1 5) (0 : Int32).toNatClampNeg 0) → (∀ G9 : RS, G9 = sI G8 6 1 → (vp_in 0 1024 ∧ (∀ G11 : RS, G11 = sA G9 7 (upd (G9.2.1 7) (0 : Int32).toNatClampNeg 1) → (fX0_lastMayBreakAlone_49 N (fun G20 => Q 0 G20) Q N 0 G11))))))) Q w (nI j) (sA G 7 a7)) (fun j a7 => ∀ q, q ∈ op.take j → a7 q = 0) op.length ?_ ?_ N 0 (G.2.1 7) (by omega) (by omega) (fun q hq => by simp at hq)
  · have e : sA G 7 (G.2.1 7) = G := by
      unfold sA
      refine Prod.ext rfl (Prod.ext (funext fun j => ?_) rfl)
      show up G.2.1 7 (G.2.1 7) j = G.2.1 j
      by_cases z : j = 7
      · subst z
        exact up_same _ _ _
      · exact up_ne z
    rw [e] at key
    exact key
  · intro w a7 ha
    rw [List.take_length] at ha
    refine lp_end o1 ⟨vp_in_nI (n := 0) (by omega) (by omega), nm_e (nm_e ⟨vp_in_nI (n := 0) (by omega) (by omega), nm_e ?_⟩)⟩
    refine main N 0 _ [0] hG ?_ ?_ ⟨by simp, fun j hj => absurd hj (by omega)⟩ (by omega)
    · show VS (ls ++ [l]) (inC hs) [0] (upd a7 0 1)
      refine ⟨by simp, fun q hq => ?_, fun q hq => ?_, by simp⟩
      · rw [List.mem_singleton] at hq
        subst hq
        exact ⟨inC_0 _, RC_0 _⟩
      · rw [List.mem_singleton]
        by_cases z : q = 0
        · subst z
          rw [pk_us]
          exact ⟨fun _ => rfl, fun _ => by decide⟩
        · rw [pk_un z, ha q ((hmem q).mpr hq)]
          exact ⟨fun c => absurd rfl c, fun c => absurd c z⟩
    · show RW [0] 1 (upd (G.2.1 5) 0 0)
      refine ⟨rfl, fun j q hq => ?_⟩
      cases j with
      | zero =>
        cases hq
        rw [pk_us]
        rfl
      | succ j => simp at hq
  · intro w j a7 hj ha ih
    obtain ⟨q, hq⟩ : ∃ q, op[j]? = some q := ⟨op[j], List.getElem?_eq_getElem hj⟩
    have hq4 := hC.1 q ((hmem q).mp (List.mem_of_getElem? hq))
    refine lp_in o1 (by omega) hj ⟨vp_in_nI (by omega) (by omega), ?_⟩
    show vp_in (G.2.1 5 (nI j).toNatClampNeg) 1024 ∧ (∀ G4 : RS, G4 = sA (sA G 7 a7) 7 (upd a7 (G.2.1 5 (nI j).toNatClampNeg).toNatClampNeg 0) → _)
    rw [nI_clamp (by omega), o3 j q hq, nI_clamp (by omega), sA_2]
    refine ⟨vp_in_nI hq4 (by omega), nm_e (nm_r (nI_1 j) (ih _ (fun x hx => ?_)))⟩
    by_cases z : x = q
    · subst z
      exact pk_us
    · rw [pk_un z]
      rw [List.take_succ, hq, List.mem_append] at hx
      rcases hx with hx | hx
      · exact ha x hx
      · simp at hx
        exact absurd hx z
end REACH
