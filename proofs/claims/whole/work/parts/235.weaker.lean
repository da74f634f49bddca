/-! a weaker game is easier -/
/-- a law and a weaker one: their states beside each other -/
def rl (l l' : Lw) (s s' : Nat) : Prop :=
  (l' = l ∧ s = s') ∨ (l.1 = 1 ∧ l'.1 = 1 ∧ l'.2.2 = l.2.2 ∧ l.2.1 ≤ l'.2.1 ∧ l'.2.1 ≤ 3 ∧ ((s = 0 ∧ s' = 0) ∨ (0 < s ∧ s ≤ s'))) ∨ (l.1 = 2 ∧ l'.1 = 2 ∧ l'.2.2 = l.2.2 ∧ l'.2.1 ≤ l.2.1 ∧ l.2.1 ≤ 3 ∧ s' ≤ s)
theorem rl_step {l l' : Lw} {s s' t z : Nat} (h : rl l l' s s') (hz : nx l s t = some z) : ∃ z', nx l' s' t = some z' ∧ rl l l' z z' := by
  rcases h with ⟨h1, h2⟩ | ⟨h1, h2, h3, h4, h5, h6⟩ | ⟨h1, h2, h3, h4, h5, h6⟩
  · subst h1
    subst h2
    exact ⟨z, hz, Or.inl ⟨rfl, rfl⟩⟩
  · unfold nx at hz ⊢
    rw [h1, if_neg (by decide), if_pos rfl] at hz
    rw [h2, if_neg (by decide), if_pos rfl, h3]
    have mk : ∀ a b, ((a = 0 ∧ b = 0) ∨ (0 < a ∧ a ≤ b)) → rl l l' a b := fun a b hab => Or.inr (Or.inl ⟨h1, h2, h3, h4, h5, hab⟩)
    by_cases f : l.2.2.2 t = true
    · rw [if_pos f] at hz ⊢
      cases hz
      exact ⟨0, rfl, mk 0 0 (Or.inl ⟨rfl, rfl⟩)⟩
    · rw [if_neg f] at hz ⊢
      rcases h6 with ⟨a, b⟩ | ⟨a, b⟩
      · subst a
        subst b
        rw [if_neg (by omega)] at hz ⊢
        by_cases e : l.2.2.1 t = true
        · rw [if_pos e] at hz ⊢
          by_cases m0 : l.2.1 = 0
          · rw [if_pos m0] at hz
            cases hz
          · rw [if_neg m0] at hz
            cases hz
            rw [if_neg (by omega)]
            exact ⟨_, rfl, mk _ _ (Or.inr ⟨by omega, h4⟩)⟩
        · rw [if_neg e] at hz ⊢
          cases hz
          exact ⟨0, rfl, mk 0 0 (Or.inl ⟨rfl, rfl⟩)⟩
      · rw [if_pos a] at hz
        rw [if_pos (by omega)]
        by_cases s1 : s = 1
        · rw [if_pos s1] at hz
          cases hz
        · rw [if_neg s1] at hz
          cases hz
          rw [if_neg (by omega)]
          exact ⟨_, rfl, mk _ _ (Or.inr ⟨by omega, by omega⟩)⟩
  · unfold nx at hz ⊢
    rw [h1, if_neg (by decide), if_neg (by decide)] at hz
    rw [h2, if_neg (by decide), if_neg (by decide), h3]
    have mk : ∀ a b, b ≤ a → rl l l' a b := fun a b hab => Or.inr (Or.inr ⟨h1, h2, h3, h4, h5, hab⟩)
    by_cases f : 0 < s ∧ ¬ l.2.2.2 t = true
    · rw [if_pos f] at hz
      cases hz
    · rw [if_neg f] at hz
      rw [if_neg (fun c => f ⟨by omega, c.2⟩)]
      by_cases e : l.2.2.1 t = true ∧ s - 1 < l.2.1
      · rw [if_pos e] at hz
        cases hz
        by_cases e' : l.2.2.1 t = true ∧ s' - 1 < l'.2.1
        · rw [if_pos e']
          exact ⟨_, rfl, mk _ _ h4⟩
        · rw [if_neg e']
          exact ⟨_, rfl, mk _ _ (by omega)⟩
      · rw [if_neg e] at hz
        cases hz
        by_cases e' : l.2.2.1 t = true ∧ s' - 1 < l'.2.1
        · rw [if_pos e']
          refine ⟨_, rfl, mk _ _ ?_⟩
          have : ¬ s - 1 < l.2.1 := fun c => e ⟨e'.1, c⟩
          omega
        · rw [if_neg e']
          exact ⟨_, rfl, mk _ _ (by omega)⟩
/-- the places of a game beside those of a weaker one, in which some laws may be left -/
def pr : List (Lw × Option Lw) → Nat → Nat → Prop
  | [], _, _ => True
  | (_, none) :: es, p, p' => pr es (p / 4) p'
  | (l, some l') :: es, p, p' => rl l l' (p % 4) (p' % 4) ∧ pr es (p / 4) (p' / 4)
def l4 (l : Lw) : Prop := ∀ s t z, s < 4 → nx l s t = some z → z < 4
theorem sim_step : ∀ {es : List (Lw × Option Lw)} {p p' q t : Nat}, (∀ e ∈ es, l4 e.1 ∧ ∀ l', e.2 = some l' → l4 l') → pr es p p' → gst (es.map Prod.fst) p t = some q → ∃ q', gst (es.filterMap Prod.snd) p' t = some q' ∧ pr es q q'
  | [], p, p', q, t, _, _, _ => ⟨0, rfl, trivial⟩
  | (l, e) :: es, p, p', q, t, h4, h, hg => by
    obtain ⟨hl, he⟩ := h4 (l, e) (by simp)
    have hg : (match nx l (p % 4) t, gst (es.map Prod.fst) (p / 4) t with | some s, some q => some (s + 4 * q) | _, _ => none) = some q := hg
    cases hx : nx l (p % 4) t with
    | none => rw [hx] at hg; cases hg
    | some s =>
      cases hy : gst (es.map Prod.fst) (p / 4) t with
      | none => rw [hx, hy] at hg; cases hg
      | some y =>
        rw [hx, hy] at hg
        cases hg
        have hs : s < 4 := hl _ _ _ (Nat.mod_lt _ (by omega)) hx
        cases e with
        | none =>
          obtain ⟨q', h1, h2⟩ := sim_step (p' := p') (fun e he => h4 e (List.mem_cons_of_mem _ he)) h hy
          refine ⟨q', h1, ?_⟩
          show pr es ((s + 4 * y) / 4) q'
          rw [show (s + 4 * y) / 4 = y by omega]
          exact h2
        | some l' =>
          obtain ⟨q', h1, h2⟩ := sim_step (p' := p' / 4) (fun e he => h4 e (List.mem_cons_of_mem _ he)) h.2 hy
          obtain ⟨z', h3, h5⟩ := rl_step h.1 hx
          have hz' : z' < 4 := he l' rfl _ _ _ (Nat.mod_lt _ (by omega)) h3
          refine ⟨z' + 4 * q', ?_, ?_⟩
          · show (match nx l' (p' % 4) t, gst (es.filterMap Prod.snd) (p' / 4) t with | some s, some q => some (s + 4 * q) | _, _ => none) = _
            rw [h3, h1]
          · show rl l l' ((s + 4 * y) % 4) ((z' + 4 * q') % 4) ∧ pr es ((s + 4 * y) / 4) ((z' + 4 * q') / 4)
            rw [show (s + 4 * y) / 4 = y by omega, show (z' + 4 * q') / 4 = q' by omega, show (s + 4 * y) % 4 = s by omega, show (z' + 4 * q') % 4 = z' by omega]
            exact ⟨h5, h2⟩
theorem sim_lst {es : List (Lw × Option Lw)} (h4 : ∀ e ∈ es, l4 e.1 ∧ ∀ l', e.2 = some l' → l4 l') : ∀ {m p p' : Nat}, pr es p p' → Lst (es.filterMap Prod.snd) m p' → Lst (es.map Prod.fst) m p
  | 0, _, _, _, h => h
  | m + 1, p, p', hp, ⟨i, hi, hh⟩ => ⟨i, hi, fun o ho q e => by
    obtain ⟨q', h1, h2⟩ := sim_step h4 hp e
    exact sim_lst h4 h2 (hh o ho q' h1)⟩
theorem sim_safe {es : List (Lw × Option Lw)} (h4 : ∀ e ∈ es, l4 e.1 ∧ ∀ l', e.2 = some l' → l4 l') (h0 : pr es 0 0) (h : Safe (es.map Prod.fst) 0) : Safe (es.filterMap Prod.snd) 0 := fun m c => h m (sim_lst h4 h0 c)
/-- a part of a set -/
def sub (a set : Nat) : Prop := ∀ j, a.testBit j = true → set.testBit j = true
theorem sub_and {a set : Nat} (h : sub a set) : a &&& set = a := by
  refine Nat.eq_of_testBit_eq (fun k => ?_)
  rw [Nat.testBit_and]
  cases ha : a.testBit k with
  | false => rfl
  | true => rw [h k ha]; rfl
theorem sub_of_and {a set : Nat} (h : a &&& set = a) : sub a set := by
  intro j hj
  rw [← h, Nat.testBit_and] at hj
  cases hb : set.testBit j with
  | true => rfl
  | false => rw [hb, Bool.and_false] at hj; cases hj
theorem sub_le {a set : Nat} (h : sub a set) : a ≤ set := by
  rw [← sub_and h]
  exact Nat.and_le_right
theorem mem_sub {a set : Nat} (h : sub a set) (n : Nat) : mem a n = (mem set n).filter (fun w => a.testBit w) := by
  unfold mem
  rw [List.filter_filter]
  refine List.filter_congr (fun w _ => ?_)
  cases ha : a.testBit w with
  | false => rfl
  | true => rw [h w ha]; rfl
theorem fm_of {f : Nat → Lw} {b : Nat → Bool} : ∀ W : List Nat, ((W.map (fun w => (f w, if b w then some (f w) else none))).filterMap Prod.snd) = (W.filter b).map f
  | [] => rfl
  | w :: W => by
    rw [List.map_cons]
    cases hb : b w with
    | false =>
      rw [List.filter_cons_of_neg (by rw [hb]; decide), ← fm_of W]
      rfl
    | true =>
      rw [List.filter_cons_of_pos hb, List.map_cons, ← fm_of W]
      rfl
theorem pr_0 {f : Nat → Lw} {b : Nat → Bool} : ∀ W : List Nat, pr (W.map (fun w => (f w, if b w then some (f w) else none))) 0 0
  | [] => trivial
  | w :: W => by
    rw [List.map_cons]
    cases hb : b w with
    | false => exact pr_0 W
    | true => exact ⟨Or.inl ⟨rfl, rfl⟩, pr_0 W⟩
/-- a part of a set that can be obeyed can be obeyed -/
theorem sub_safe {f : Nat → Lw} {a set n : Nat} (h : sub a set) (h4 : ∀ w, w < n → l4 (f w)) (hs : Safe ((mem set n).map f) 0) : Safe ((mem a n).map f) 0 := by
  rw [mem_sub h, ← fm_of]
  refine sim_safe (fun e he => ?_) (pr_0 _) ?_
  · obtain ⟨w, hw, rfl⟩ := List.mem_map.mp he
    have hwn : w < n := by
      unfold mem at hw
      rw [List.mem_filter, List.mem_range] at hw
      exact hw.1
    refine ⟨h4 w hwn, fun l' e => ?_⟩
    have e : (if a.testBit w then some (f w) else none) = some l' := e
    cases hb : a.testBit w with
    | false => rw [hb] at e; cases e
    | true =>
      rw [hb] at e
      cases e
      exact h4 w hwn
  · rw [List.map_map]
    exact hs
