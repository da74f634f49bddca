/-! the reference's lost places -/
/-- the value that lies at a place after r rounds -/
def LRk (ls : List Lw) (r : Nat) (x : Int32) (q : Nat) : Prop := (x = -1 ∧ ¬ Lst ls r q) ∨ ∃ m, x = nI m ∧ 0 < m ∧ m ≤ r ∧ Lst ls m q ∧ ¬ Lst ls (m - 1) q
theorem LRk_iff {ls : List Lw} {r v q : Nat} {x : Int32} (h : LRk ls r x q) (hr : r ≤ 2000) (hv : v ≤ r) (hr2 : r ≤ v + 1) : (¬ x < 0 ∧ x < nI (v + 1)) ↔ Lst ls v q := by
  rcases h with ⟨h1, h2⟩ | ⟨m, h1, h2, h3, h4, h5⟩
  · subst h1
    exact ⟨fun c => absurd (by decide) c.1, fun c => absurd (Lst_mono hv c) h2⟩
  · subst h1
    constructor
    · rintro ⟨_, c⟩
      by_cases z : m ≤ v
      · exact Lst_mono z h4
      · exact absurd c (nI_nlt (by omega) (by omega))
    · intro c
      refine ⟨nI_pos (by omega), ?_⟩
      by_cases z : m ≤ v
      · exact nI_lt (by omega) (by omega)
      · exact absurd (Lst_mono (by omega) c) h5
theorem e_breaks {N p i : Nat} {v : Int32} {ls : List Lw} {S : RS} {Q : Int32 → Prop} (hN : 100 ≤ N) (hS : ST ls S) (hp : p < 2 ^ 31) (hi : i < 8) (hq : ∀ t, t < 64 → ∀ q, gst ls p t = some q → q < 1024) (h1 : (∀ o, o < 8 → ∀ q, gst ls p (8 * i + o) = some q → ¬ S.2.1 20 q < 0 ∧ S.2.1 20 q < v) → Q 1) (h0 : (¬ ∀ o, o < 8 → ∀ q, gst ls p (8 * i + o) = some q → ¬ S.2.1 20 q < 0 ∧ S.2.1 20 q < v) → Q 0) : fX6_breaks N S (nI p) (nI i) v Q := by
  have key : ∀ (w o : Nat), o ≤ 8 → 8 - o < w → (∀ o', o' < o → ∀ q, gst ls p (8 * i + o') = some q → ¬ S.2.1 20 q < 0 ∧ S.2.1 20 q < v) → fX6_breaks_3 N S (nI p) (nI i) v (Q 1) Q w (nI o) := by
    intro w
    induction w with
    | zero => intro o _ hw; omega
    | succ w ih =>
      intro o ho hw hb
      by_cases q8 : o = 8
      · subst q8
        exact lp_end (m := 8) (n := 8) rfl (h1 hb)
      · have ho8 : o < 8 := by omega
        refine lp_in (m := 8) (n := 8) rfl (by omega) ho8 ?_
        rw [show (8 : Int32) * nI i = nI (8 * i) from pk_mul 8 i, nI_add]
        refine e_behind hN hS hp (by omega) ?_
        have go : (∀ q, gst ls p (8 * i + o) = some q → ¬ S.2.1 20 q < 0 ∧ S.2.1 20 q < v) → fX6_breaks_3 N S (nI p) (nI i) v (Q 1) Q w (nI (o + 1)) := by
          intro hh
          refine ih (o + 1) (by omega) (by omega) (fun o' ho' q e => ?_)
          by_cases z : o' = o
          · subst z
            exact hh q e
          · exact hb o' (by omega) q e
        cases hg : gst ls p (8 * i + o) with
        | none => exact ⟨fun _ => nm_r (nI_1 o) (go (fun q e => by rw [hg] at e; cases e)), fun c => absurd (by decide) c⟩
        | some q =>
          have hq1 := hq _ (by omega) q hg
          refine ⟨fun c => absurd c (nI_pos (by omega)), fun _ => ⟨vp_in_nI hq1 (by omega), ?_⟩⟩
          show (S.2.1 20 (nI q).toNatClampNeg < 0 → _) ∧ (¬ S.2.1 20 (nI q).toNatClampNeg < 0 → vp_in (nI q) 1024 ∧ (S.2.1 20 (nI q).toNatClampNeg < v → _) ∧ (¬ S.2.1 20 (nI q).toNatClampNeg < v → _))
          rw [nI_clamp (by omega)]
          refine ⟨fun c => h0 (fun hh => (hh o ho8 q hg).1 c), fun c => ⟨vp_in_nI hq1 (by omega), fun c2 => nm_r (nI_1 o) (go (fun q' e => by rw [hg] at e; cases e; exact ⟨c, c2⟩)), fun c2 => h0 (fun hh => c2 (hh o ho8 q hg).2)⟩⟩
  exact key N 0 (by omega) (by omega) (fun o ho => absurd ho (by omega))
theorem e_breakingIn {N p : Nat} {v : Int32} {ls : List Lw} {S : RS} {Q : Int32 → Prop} (hN : 100 ≤ N) (hS : ST ls S) (hp : p < 2 ^ 31) (hq : ∀ t, t < 64 → ∀ q, gst ls p t = some q → q < 1024) (h1 : ∀ i, i < 8 → (∀ i', i' < i → ¬ ∀ o, o < 8 → ∀ q, gst ls p (8 * i' + o) = some q → ¬ S.2.1 20 q < 0 ∧ S.2.1 20 q < v) → (∀ o, o < 8 → ∀ q, gst ls p (8 * i + o) = some q → ¬ S.2.1 20 q < 0 ∧ S.2.1 20 q < v) → Q (nI i)) (h0 : (∀ i, i < 8 → ¬ ∀ o, o < 8 → ∀ q, gst ls p (8 * i + o) = some q → ¬ S.2.1 20 q < 0 ∧ S.2.1 20 q < v) → Q (-1)) : fX6_breakingIn N S (nI p) v Q := by
  have key : ∀ (w i : Nat), i ≤ 8 → 8 - i < w → (∀ i', i' < i → ¬ ∀ o, o < 8 → ∀ q, gst ls p (8 * i' + o) = some q → ¬ S.2.1 20 q < 0 ∧ S.2.1 20 q < v) → fX6_breakingIn_2 N S (nI p) v (Q (-1)) Q w (nI i) := by
    intro w
    induction w with
    | zero => intro o _ hw; omega
    | succ w ih =>
      intro i hi hw hb
      by_cases q8 : i = 8
      · subst q8
        exact lp_end (m := 8) (n := 8) rfl (h0 hb)
      · have hi8 : i < 8 := by omega
        refine lp_in (m := 8) (n := 8) rfl (by omega) hi8 (e_breaks hN hS hp hi8 hq (fun hh => ⟨fun c => absurd c (by decide), fun _ => h1 i hi8 hb hh⟩) (fun hh => ⟨fun _ => nm_r (nI_1 i) (ih (i + 1) (by omega) (by omega) (fun i' hi' => ?_)), fun c => absurd rfl c⟩))
        by_cases z : i' = i
        · subst z
          exact hh
        · exact hb i' (by omega)
  exact key N 0 (by omega) (by omega) (fun o ho => absurd ho (by omega))
def ng (f : Nat → Int32) (q : Nat) : Bool := decide (f q < 0)
/-- the lost places lie as they are -/
def LZ (ls : List Lw) (S : RS) : Prop := ∀ q, q < 4 ^ ls.length → (S.2.1 20 q = -1 ∧ Safe ls q) ∨ ∃ m, S.2.1 20 q = nI m ∧ 0 < m ∧ m ≤ 1100 ∧ Rk ls q m
theorem e_findLost {N : Nat} {ls : List Lw} {S : RS} {Q : RS → Prop} (hN : 1100 ≤ N) (h5 : ls.length ≤ 5) (h16 : S.1 16 = nI ls.length) (hM : MB ls S) (h : ∀ S', fs S S' → S'.1 17 = nI (4 ^ ls.length) → ST ls S' → LZ ls S' → Q S') : fX6_findLost N S Q := by
  unfold fX6_findLost
  refine e_findSteps (by omega) h5 h16 hM (fun S1 f1 k1 t1 => ?_)
  have hX := p4 h5
  have hg : ∀ p t q, gst ls p t = some q → q < 4 ^ ls.length := fun p t q e => gst_lt (MB_lt hM) e
  unfold LZ at h
  obtain ⟨X, eX⟩ : ∃ X, X = 4 ^ ls.length := ⟨_, rfl⟩
  rw [← eX] at h hX hg k1
  have round : ∀ (v : Nat) (R : Int32 → RS → Prop) (s0 : RS), v ≤ 1100 → (fs S s0 ∧ s0.1 17 = nI X ∧ ST ls s0) → (∀ q, q < X → LRk ls v (s0.2.1 20 q) q) → ((∀ p, p < X → ¬ Lst ls v p → ¬ Lst ls (v + 1) p) → R 0 s0) → (∀ s', (fs S s' ∧ s'.1 17 = nI X ∧ ST ls s') → (∀ q, q < X → LRk ls (v + 1) (s'.2.1 20 q) q) → cz (ng (s'.2.1 20)) X < cz (ng (s0.2.1 20)) X → R 1 s') → fX6_findLost_39 N (nI (v + 1)) R Q N 0 0 s0 := by
    intro v R s0 hv hJ hS hR0 hR1
    have key := loop_i (σ := Int32 × RS) (fun w i s => fX6_findLost_39 N (nI (v + 1)) R Q w s.1 (nI i) s.2) (fun i s => (fs S s.2 ∧ s.2.1 17 = nI X ∧ ST ls s.2) ∧ (∀ q, q < X → LRk ls (if q < i then v + 1 else v) (s.2.2.1 20 q) q) ∧ ((s.1 = 0 ∧ s.2 = s0 ∧ ∀ p, p < i → ¬ Lst ls v p → ¬ Lst ls (v + 1) p) ∨ (s.1 = 1 ∧ cz (ng (s.2.2.1 20)) X < cz (ng (s0.2.1 20)) X))) X ?_ ?_ N 0 (0, s0) (by omega) (by omega) ⟨hJ, hS, Or.inl ⟨rfl, rfl, fun p hp => absurd hp (by omega)⟩⟩
    · exact key
    · rintro w ⟨v', s⟩ ⟨a, b, c⟩
      refine lp_end a.2.1 ?_
      rcases c with ⟨c1, c2, c3⟩ | ⟨c1, c2⟩
      · have c1 : v' = 0 := c1
        have c2 : s = s0 := c2
        subst c1
        subst c2
        exact hR0 c3
      · have c1 : v' = 1 := c1
        subst c1
        exact hR1 s a (fun q hq => by have := b q hq; rw [if_pos hq] at this; exact this) c2
    · rintro w i ⟨v', s⟩ hi ⟨a, b, c⟩ ih
      have a : fs S s ∧ s.1 17 = nI X ∧ ST ls s := a
      have b : ∀ q, q < X → LRk ls (if q < i then v + 1 else v) (s.2.1 20 q) q := b
      have ok : ∀ q, q < X → ((¬ s.2.1 20 q < 0 ∧ s.2.1 20 q < nI (v + 1)) ↔ Lst ls v q) := by
        intro q hq
        refine LRk_iff (b q hq) ?_ ?_ ?_ <;> split <;> omega
      have bi := b i hi
      rw [if_neg (by omega)] at bi
      have up : (∀ x, LRk ls (v + 1) x i → x = s.2.1 20 i → ∀ q, q < X → LRk ls (if q < i + 1 then v + 1 else v) (s.2.1 20 q) q) := by
        intro x hx ex q hq
        by_cases z : q = i
        · subst z
          rw [if_pos (by omega), ← ex]
          exact hx
        · have := b q hq
          by_cases z2 : q < i
          · rw [if_pos z2] at this
            rw [if_pos (by omega)]
            exact this
          · rw [if_neg z2] at this
            rw [if_neg (by omega)]
            exact this
      refine lp_in a.2.1 (by omega) hi ⟨vp_in_nI (by omega) (by omega), ?_⟩
      show (0 ≤ s.2.1 20 (nI i).toNatClampNeg → _) ∧ (¬ 0 ≤ s.2.1 20 (nI i).toNatClampNeg → _)
      rw [nI_clamp (by omega)]
      refine ⟨fun z => nm_r (nI_1 i) (ih (v', s) ⟨a, ?_, ?_⟩), fun z => ?_⟩
      · refine up _ ?_ rfl
        rcases bi with ⟨e1, _⟩ | ⟨m, e1, e2, e3, e4, e5⟩
        · rw [e1] at z
          exact absurd z (by decide)
        · exact Or.inr ⟨m, e1, e2, by omega, e4, e5⟩
      · rcases c with ⟨c1, c2, c3⟩ | c
        · refine Or.inl ⟨c1, c2, fun p hp hz => ?_⟩
          by_cases q : p = i
          · subst q
            rcases bi with ⟨e1, _⟩ | ⟨m, e1, e2, e3, e4, e5⟩
            · rw [e1] at z
              exact absurd z (by decide)
            · exact absurd (Lst_mono e3 e4) hz
          · exact c3 p (by omega) hz
        · exact Or.inr c
      · have hn : s.2.1 20 i = -1 ∧ ¬ Lst ls v i := by
          rcases bi with e | ⟨m, e1, e2, e3, e4, e5⟩
          · exact e
          · rw [e1] at z
            exact absurd (nI_pos' (by omega)) z
        refine e_breakingIn (by omega) a.2.2 (by omega) (fun t _ q e => Nat.lt_of_lt_of_le (hg _ _ _ e) hX) (fun k hk _ hh => ⟨fun c => absurd c (nI_pos (by omega)), fun _ => ⟨vp_in_nI (by omega) (by omega), nm_e (nm_r (nI_1 i) (ih (1, sA s 20 (upd (s.2.1 20) i (nI (v + 1)))) ⟨⟨⟨gf_A a.1.1 (Or.inr (Or.inr (Or.inr (Or.inr rfl)))) _, a.1.2⟩, a.2⟩, ?_, Or.inr ⟨rfl, ?_⟩⟩))⟩⟩) (fun hh => ⟨fun _ => nm_r (nI_1 i) (ih (v', s) ⟨a, up _ (Or.inl ⟨rfl, ?_⟩) hn.1.symm, ?_⟩), fun c => absurd (by decide) c⟩)
        · intro q hq
          show LRk ls _ (upd (s.2.1 20) i (nI (v + 1)) q) q
          by_cases zq : q = i
          · subst zq
            rw [pk_us, if_pos (by omega)]
            exact Or.inr ⟨v + 1, rfl, by omega, by omega, ⟨k, hk, fun o ho q' e => (ok q' (hg _ _ _ e)).mp (hh o ho q' e)⟩, hn.2⟩
          · rw [pk_un zq]
            have := b q hq
            by_cases z2 : q < i
            · rw [if_pos z2] at this
              rw [if_pos (by omega)]
              exact this
            · rw [if_neg z2] at this
              rw [if_neg (by omega)]
              exact this
        · show cz (ng (upd (s.2.1 20) i (nI (v + 1)))) X < _
          have lt : cz (ng (upd (s.2.1 20) i (nI (v + 1)))) X < cz (ng (s.2.1 20)) X := cz_up (p := i) (by unfold ng; rw [hn.1]; rfl) (by unfold ng; rw [pk_us]; exact decide_eq_false (nI_pos (by omega))) (fun q hq => by unfold ng; rw [pk_un hq]) X hi
          rcases c with ⟨c1, c2, c3⟩ | ⟨c1, c2⟩
          · have c2 : s = s0 := c2
            subst c2
            exact lt
          · exact Nat.lt_trans lt c2
        · rintro ⟨k, hk, hL⟩
          exact hh k hk (fun o ho q e => (ok q (hg _ _ _ e)).mpr (hL o ho q e))
        · rcases c with ⟨c1, c2, c3⟩ | c
          · refine Or.inl ⟨c1, c2, fun p hp hz => ?_⟩
            by_cases q : p = i
            · subst q
              rintro ⟨k, hk, hL⟩
              exact hh k hk (fun o ho q e => (ok q (hg _ _ _ e)).mpr (hL o ho q e))
            · exact c3 p (by omega) hz
          · exact Or.inr c
  have out : ∀ (w v : Nat) (s : RS), (fs S s ∧ s.1 17 = nI X ∧ ST ls s) → (∀ q, q < X → LRk ls v (s.2.1 20 q) q) → v + cz (ng (s.2.1 20)) X ≤ 1024 → cz (ng (s.2.1 20)) X + 1 < w → fX6_findLost_31 N (fun S21 => Q S21) Q w 1 (nI (v + 1)) s := by
    intro w
    induction w with
    | zero => intro v s _ _ _ hw; omega
    | succ w ih =>
      intro v s hJ hS hb hw
      refine ⟨fun c => absurd c (by decide), fun _ => round v _ s (by omega) hJ hS (fun hh => nm_e ?_) (fun s' j' n' hlt => nm_r (nI_1 _) (ih (v + 1) s' j' n' (by omega) (by omega)))⟩
      obtain ⟨w, rfl⟩ : ∃ w', w = w' + 1 := ⟨w - 1, by omega⟩
      refine ⟨fun _ => h s hJ.1 hJ.2.1 hJ.2.2 (fun q hq => ?_), fun c => absurd rfl c⟩
      rcases hS q hq with ⟨e1, e2⟩ | ⟨m, e1, e2, e3, e4, e5⟩
      · refine Or.inl ⟨e1, fun m hm => e2 ?_⟩
        exact stable (C := fun q => q < X) ⟨fun q hq => by omega, fun p t q _ _ e => hg p t q e⟩ hh m q hq hm
      · exact Or.inr ⟨m, e1, e2, by omega, Or.inr ⟨e2, e4, e5⟩⟩
  have first := loop_i (σ := RS) (fun w i s => fX6_findLost_6 N (fun S6 => (fX6_findLost_31 N (fun S21 => Q S21) Q N 1 1 S6)) Q w (nI i) s) (fun i s => (fs S s ∧ s.1 17 = nI X ∧ ST ls s) ∧ ∀ q, q < i → s.2.1 20 q = -1) X ?_ ?_ N 0 S1 (by omega) (by omega) ⟨⟨f1, k1, t1⟩, fun q hq => absurd hq (by omega)⟩
  · exact first
  · rintro w s ⟨a, b⟩
    have := cz_le (ng (s.2.1 20)) X
    exact lp_end a.2.1 (out N 0 s a (fun q hq => Or.inl ⟨b q hq, fun hl => hl⟩) (by omega) (by omega))
  · rintro w i s hi ⟨a, b⟩ ih
    refine lp_in a.2.1 (by omega) hi ⟨vp_in_nI (by omega) (by omega), ?_⟩
    rw [nI_clamp (by omega)]
    refine nm_e (nm_r (nI_1 i) (ih _ ⟨⟨⟨gf_A a.1.1 (Or.inr (Or.inr (Or.inr (Or.inr rfl)))) _, a.1.2⟩, a.2⟩, fun q hq => ?_⟩))
    show upd (s.2.1 20) i (-1) q = -1
    by_cases z : q = i
    · subst z
      rw [pk_us]
    · rw [pk_un z]
      exact b q (by omega)
