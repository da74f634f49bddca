/-! peace: the terms -/
/-- a law under a term -/
def ew (l : Lw) (e : Nat) : Lw := (l.1, if l.1 = 1 then l.2.1 + e else l.2.1 - e, l.2.2)
/-- the terms that are allowed -/
def al (l : Lw) (e : Nat) : Prop := e = 0 ∨ e = 4 ∨ (e < 4 ∧ ((l.1 = 1 ∧ l.2.1 + e ≤ 3) ∨ (l.1 = 2 ∧ e ≤ l.2.1)))
theorem al_le {l : Lw} {e : Nat} (h : al l e) : e ≤ 4 := by
  rcases h with h | h | h <;> omega
def lws (f : Nat → Lw) : List Nat → List Nat → List Lw
  | w :: W, e :: es => (if e = 4 then [] else [ew (f w) e]) ++ lws f W es
  | _, _ => []
def prc (pw : Nat → Nat → Nat) : List Nat → List Nat → Nat
  | w :: W, e :: es => pw w e + prc pw W es
  | _, _ => 0
def okk (f : Nat → Lw) : List Nat → List Nat → Prop
  | w :: W, e :: es => al (f w) e ∧ okk f W es
  | _, [] => True
  | [], _ :: _ => False
theorem okk_nil (f : Nat → Lw) (W : List Nat) : okk f W [] := by
  cases W <;> trivial
theorem lws_nil (f : Nat → Lw) (W : List Nat) : lws f W [] = [] := by
  cases W <;> rfl
theorem prc_nil (pw : Nat → Nat → Nat) (W : List Nat) : prc pw W [] = 0 := by
  cases W <;> rfl
theorem lws_snoc {f : Nat → Lw} {w e : Nat} : ∀ {W es : List Nat}, W[es.length]? = some w → lws f W (es ++ [e]) = lws f W es ++ (if e = 4 then [] else [ew (f w) e])
  | [], _, h => by simp at h
  | x :: W, [], h => by
    simp at h
    subst h
    show (if e = 4 then [] else [ew (f x) e]) ++ lws f W [] = _
    rw [lws_nil, List.append_nil]
    rfl
  | x :: W, y :: es, h => by
    have h : W[es.length]? = some w := by simpa using h
    show (if y = 4 then [] else [ew (f x) y]) ++ lws f W (es ++ [e]) = (if y = 4 then [] else [ew (f x) y]) ++ lws f W es ++ _
    rw [lws_snoc h, List.append_assoc]
theorem prc_snoc {pw : Nat → Nat → Nat} {w e : Nat} : ∀ {W es : List Nat}, W[es.length]? = some w → prc pw W (es ++ [e]) = prc pw W es + pw w e
  | [], _, h => by simp at h
  | x :: W, [], h => by
    simp at h
    subst h
    show pw x e + prc pw W [] = 0 + pw x e
    rw [prc_nil]
    omega
  | x :: W, y :: es, h => by
    have h : W[es.length]? = some w := by simpa using h
    show pw x y + prc pw W (es ++ [e]) = pw x y + prc pw W es + pw w e
    rw [prc_snoc h]
    omega
theorem okk_snoc {f : Nat → Lw} {w e : Nat} : ∀ {W es : List Nat}, W[es.length]? = some w → okk f W es → al (f w) e → okk f W (es ++ [e])
  | [], _, h, _, _ => by simp at h
  | x :: W, [], h, _, ha => by
    simp at h
    subst h
    exact ⟨ha, okk_nil f W⟩
  | x :: W, y :: es, h, ho, ha => by
    have h : W[es.length]? = some w := by simpa using h
    exact ⟨ho.1, okk_snoc h ho.2 ha⟩
theorem okk_at {f : Nat → Lw} {w e : Nat} {rest : List Nat} : ∀ {W es : List Nat}, W[es.length]? = some w → okk f W (es ++ e :: rest) → al (f w) e
  | [], _, h, _ => by simp at h
  | x :: W, [], h, ho => by
    simp at h
    subst h
    exact ho.1
  | x :: W, y :: es, h, ho => by
    have h : W[es.length]? = some w := by simpa using h
    exact okk_at h ho.2
theorem prc_pre {pw : Nat → Nat → Nat} {rest : List Nat} : ∀ (W es : List Nat), prc pw W es ≤ prc pw W (es ++ rest)
  | [], es => by
    cases es <;> exact Nat.zero_le _
  | x :: W, [] => Nat.zero_le _
  | x :: W, y :: es => by
    show pw x y + prc pw W es ≤ pw x y + prc pw W (es ++ rest)
    have := prc_pre (pw := pw) (rest := rest) W es
    omega
theorem okk_dig {f : Nat → Lw} : ∀ {W es : List Nat}, okk f W es → ∀ e, e ∈ es → e ≤ 4
  | _, [], _, e, he => by cases he
  | [], _ :: _, h, _, _ => h.elim
  | w :: W, y :: es, h, e, he => by
    rcases List.mem_cons.mp he with z | z
    · rw [z]
      exact al_le h.1
    · exact okk_dig h.2 e z
/-- the easier terms, or fewer -/
def lee : List Nat → List Nat → Prop
  | _, [] => True
  | [], _ :: _ => False
  | e :: es, g :: gs => e ≤ g ∧ lee es gs
theorem lee_nil (es : List Nat) : lee es [] := by
  cases es <;> trivial
theorem l4_ew {l : Lw} {e : Nat} (hm : l.2.1 ≤ 3) (he : e < 4) (ha : al l e) : l4 (ew l e) := by
  intro s t z hs hz
  unfold ew at hz
  have h3 : (if l.1 = 1 then l.2.1 + e else l.2.1 - e) ≤ 3 := by
    split
    · rcases ha with h | h | ⟨_, h | h⟩ <;> omega
    · omega
  have := nx_lt (E := l.2.2.1) (F := l.2.2.2) h3 (show s ≤ 3 by omega) hz
  omega
theorem ease_pairs {f : Nat → Lw} : ∀ (W fs gs : List Nat), (∀ w, w ∈ W → (f w).2.1 ≤ 3) → okk f W fs → okk f W gs → lee fs gs → ∃ E : List (Lw × Option Lw), E.map Prod.fst = lws f W fs ∧ E.filterMap Prod.snd = lws f W gs ∧ (∀ x, x ∈ E → l4 x.1 ∧ ∀ l', x.2 = some l' → l4 l') ∧ pr E 0 0
  | [], fs, gs, _, hF, hG, _ => by
    cases fs with
    | nil =>
      cases gs with
      | nil => exact ⟨[], rfl, rfl, fun x hx => (by cases hx), trivial⟩
      | cons g gs => exact hG.elim
    | cons e fs => exact hF.elim
  | w :: W, [], gs, _, _, _, hL => by
    cases gs with
    | nil => exact ⟨[], rfl, rfl, fun x hx => (by cases hx), trivial⟩
    | cons g gs => exact hL.elim
  | w :: W, e :: fs, [], hf, hF, _, _ => by
    obtain ⟨E, h1, h2, h3, h4⟩ := ease_pairs W fs [] (fun x hx => hf x (List.mem_cons_of_mem _ hx)) hF.2 (okk_nil f W) (lee_nil fs)
    rw [lws_nil] at h2
    by_cases z : e = 4
    · exact ⟨E, by show _ = (if e = 4 then [] else [ew (f w) e]) ++ lws f W fs; rw [if_pos z]; exact h1, h2, h3, h4⟩
    · refine ⟨(ew (f w) e, none) :: E, ?_, h2, ?_, h4⟩
      · show ew (f w) e :: E.map Prod.fst = (if e = 4 then [] else [ew (f w) e]) ++ lws f W fs
        rw [if_neg z, h1]
        rfl
      · intro x hx
        rcases List.mem_cons.mp hx with hx | hx
        · subst hx
          have := al_le hF.1
          exact ⟨l4_ew (hf w (by simp)) (by omega) hF.1, fun l' c => by cases c⟩
        · exact h3 x hx
  | w :: W, e :: fs, g :: gs, hf, hF, hG, hL => by
    obtain ⟨E, h1, h2, h3, h4⟩ := ease_pairs W fs gs (fun x hx => hf x (List.mem_cons_of_mem _ hx)) hF.2 hG.2 hL.2
    have le := al_le hF.1
    have lg := al_le hG.1
    have hle : e ≤ g := hL.1
    by_cases z : e = 4
    · refine ⟨E, ?_, ?_, h3, h4⟩
      · show _ = (if e = 4 then [] else [ew (f w) e]) ++ lws f W fs
        rw [if_pos z]
        exact h1
      · show _ = (if g = 4 then [] else [ew (f w) g]) ++ lws f W gs
        rw [if_pos (by omega)]
        exact h2
    · by_cases zg : g = 4
      · refine ⟨(ew (f w) e, none) :: E, ?_, ?_, ?_, h4⟩
        · show ew (f w) e :: E.map Prod.fst = (if e = 4 then [] else [ew (f w) e]) ++ lws f W fs
          rw [if_neg z, h1]
          rfl
        · show E.filterMap Prod.snd = (if g = 4 then [] else [ew (f w) g]) ++ lws f W gs
          rw [if_pos zg, h2]
          rfl
        · intro x hx
          rcases List.mem_cons.mp hx with hx | hx
          · subst hx
            exact ⟨l4_ew (hf w (by simp)) (by omega) hF.1, fun l' c => by cases c⟩
          · exact h3 x hx
      · refine ⟨(ew (f w) e, some (ew (f w) g)) :: E, ?_, ?_, ?_, ?_, h4⟩
        · show ew (f w) e :: E.map Prod.fst = (if e = 4 then [] else [ew (f w) e]) ++ lws f W fs
          rw [if_neg z, h1]
          rfl
        · show ew (f w) g :: E.filterMap Prod.snd = (if g = 4 then [] else [ew (f w) g]) ++ lws f W gs
          rw [if_neg zg, h2]
          rfl
        · intro x hx
          rcases List.mem_cons.mp hx with hx | hx
          · subst hx
            exact ⟨l4_ew (hf w (by simp)) (by omega) hF.1, fun l' c => by cases c; exact l4_ew (hf w (by simp)) (by omega) hG.1⟩
          · exact h3 x hx
        · show rl (ew (f w) e) (ew (f w) g) 0 0
          by_cases ze : e = g
          · subst ze
            exact Or.inl ⟨rfl, rfl⟩
          · have hm := hf w (by simp)
            rcases hG.1 with h | h | ⟨h, h' | h'⟩
            · omega
            · omega
            · refine Or.inr (Or.inl ⟨h'.1, h'.1, rfl, ?_, ?_, Or.inl ⟨rfl, rfl⟩⟩)
              · show (if (f w).1 = 1 then _ else _) ≤ (if (f w).1 = 1 then _ else _)
                rw [if_pos h'.1, if_pos h'.1]
                omega
              · show (if (f w).1 = 1 then _ else _) ≤ 3
                rw [if_pos h'.1]
                omega
            · refine Or.inr (Or.inr ⟨h'.1, h'.1, rfl, ?_, ?_, Nat.le_refl _⟩)
              · show (if (f w).1 = 1 then _ else _) ≤ (if (f w).1 = 1 then _ else _)
                rw [if_neg (by omega), if_neg (by omega)]
                omega
              · show (if (f w).1 = 1 then _ else _) ≤ 3
                rw [if_neg (by omega)]
                omega
theorem ease_safe {f : Nat → Lw} {W fs gs : List Nat} (hf : ∀ w, w ∈ W → (f w).2.1 ≤ 3) (hF : okk f W fs) (hG : okk f W gs) (hL : lee fs gs) (h : Safe (lws f W fs) 0) : Safe (lws f W gs) 0 := by
  obtain ⟨E, h1, h2, h3, h4⟩ := ease_pairs W fs gs hf hF hG hL
  rw [← h2]
  rw [← h1] at h
  exact sim_safe h3 h4 h
theorem lws_len {f : Nat → Lw} : ∀ (W es : List Nat), (lws f W es).length ≤ es.length
  | [], es => by
    cases es <;> exact Nat.zero_le _
  | w :: W, [] => Nat.le_refl _
  | w :: W, e :: es => by
    show ((if e = 4 then [] else [ew (f w) e]) ++ lws f W es).length ≤ es.length + 1
    have := lws_len (f := f) W es
    rw [List.length_append]
    split
    · show 0 + _ ≤ _
      omega
    · show 1 + _ ≤ _
      omega
theorem lws_hi {f : Nat → Lw} : ∀ (W es : List Nat), (∀ w, w ∈ W → (f w).2.1 ≤ 3) → okk f W es → ∀ l, l ∈ lws f W es → hi1 l ≤ hi1 l ∧ hi1 l ≤ 3
  | [], es, _, _, l, h => by
    cases es <;> cases h
  | w :: W, [], _, _, l, h => by cases h
  | w :: W, e :: es, hf, ho, l, h => by
    have h : l ∈ (if e = 4 then [] else [ew (f w) e]) ++ lws f W es := h
    rw [List.mem_append] at h
    rcases h with h | h
    · refine ⟨Nat.le_refl _, ?_⟩
      by_cases z : e = 4
      · rw [if_pos z] at h
        cases h
      · rw [if_neg z, List.mem_singleton] at h
        subst h
        have hm := hf w (by simp)
        show (if (f w).1 = 0 then 0 else if (f w).1 = 1 then (f w).2.1 + e else (f w).2.1 - e) ≤ 3
        split
        · omega
        · split
          · rcases ho.1 with h | h | ⟨_, h | h⟩ <;> omega
          · omega
    · exact lws_hi W es (fun x hx => hf x (List.mem_cons_of_mem _ hx)) ho.2 l h
theorem lee_pre : ∀ (es rest : List Nat), lee (es ++ rest) es
  | [], rest => by cases rest <;> trivial
  | e :: es, rest => ⟨Nat.le_refl _, lee_pre es rest⟩
theorem okk_pre {f : Nat → Lw} {rest : List Nat} : ∀ {W es : List Nat}, okk f W (es ++ rest) → okk f W es
  | W, [], _ => okk_nil f W
  | [], _ :: _, h => h.elim
  | w :: W, e :: es, h => ⟨h.1, okk_pre h.2⟩
theorem Safe_nil : Safe [] 0 := by
  have : ∀ m p, ¬ Lst [] m p := by
    intro m
    induction m with
    | zero => intro p h; exact h
    | succ m ih =>
      rintro p ⟨i, hi, hh⟩
      exact ih 0 (hh 0 (by omega) 0 rfl)
  exact fun m => this m 0
/-- the order of the terms -/
def tcode : List Nat → Nat → Nat
  | [], a => a
  | e :: es, a => tcode es (5 * a + e)
theorem tcode_app : ∀ (es gs : List Nat) (a : Nat), tcode (es ++ gs) a = tcode gs (tcode es a)
  | [], _, _ => rfl
  | e :: es, gs, a => tcode_app es gs (5 * a + e)
theorem tcode_bd : ∀ (es : List Nat) (a : Nat), (∀ e, e ∈ es → e ≤ 4) → a * 5 ^ es.length ≤ tcode es a ∧ tcode es a < (a + 1) * 5 ^ es.length
  | [], a, _ => by
    show a * 1 ≤ a ∧ a < (a + 1) * 1
    omega
  | e :: es, a, h => by
    obtain ⟨h1, h2⟩ := tcode_bd es (5 * a + e) (fun x hx => h x (List.mem_cons_of_mem _ hx))
    have he := h e (by simp)
    show a * 5 ^ (es.length + 1) ≤ tcode es (5 * a + e) ∧ tcode es (5 * a + e) < (a + 1) * 5 ^ (es.length + 1)
    have e1 : a * 5 ^ (es.length + 1) = (5 * a) * 5 ^ es.length := by
      rw [Nat.pow_succ, Nat.mul_comm (5 ^ es.length) 5, ← Nat.mul_assoc, Nat.mul_comm a 5]
    have e2 : (a + 1) * 5 ^ (es.length + 1) = (5 * a + 5) * 5 ^ es.length := by
      rw [Nat.pow_succ, Nat.mul_comm (5 ^ es.length) 5, ← Nat.mul_assoc, Nat.mul_comm (a + 1) 5, Nat.mul_add]
    rw [e1, e2]
    have m1 : (5 * a) * 5 ^ es.length ≤ (5 * a + e) * 5 ^ es.length := Nat.mul_le_mul_right _ (by omega)
    have m2 : (5 * a + e + 1) * 5 ^ es.length ≤ (5 * a + 5) * 5 ^ es.length := Nat.mul_le_mul_right _ (by omega)
    omega
theorem tcode_inj : ∀ (es gs : List Nat) (a b : Nat), es.length = gs.length → (∀ e, e ∈ es → e ≤ 4) → (∀ e, e ∈ gs → e ≤ 4) → tcode es a = tcode gs b → es = gs ∧ a = b
  | [], [], _, _, _, _, _, h => ⟨rfl, h⟩
  | [], _ :: _, _, _, h, _, _, _ => by simp at h
  | _ :: _, [], _, _, h, _, _, _ => by simp at h
  | e :: es, g :: gs, a, b, hl, h1, h2, h => by
    obtain ⟨i1, i2⟩ := tcode_inj es gs (5 * a + e) (5 * b + g) (by simpa using hl) (fun x hx => h1 x (List.mem_cons_of_mem _ hx)) (fun x hx => h2 x (List.mem_cons_of_mem _ hx)) h
    have x1 := h1 e (by simp)
    have x2 := h2 g (by simp)
    refine ⟨?_, by omega⟩
    rw [i1, show e = g by omega]
def cd (es : List Nat) : Nat := tcode es 0
theorem cd_snoc (es : List Nat) (e : Nat) : cd (es ++ [e]) = 5 * cd es + e := tcode_app es [e] 0
theorem cd_pre {es fs : List Nat} {r : Nat} (hl : fs.length = es.length + r) (h1 : ∀ e, e ∈ es → e ≤ 4) (h2 : ∀ e, e ∈ fs → e ≤ 4) (a : cd es * 5 ^ r ≤ cd fs) (b : cd fs < (cd es + 1) * 5 ^ r) : ∃ rest, fs = es ++ rest := by
  have hd : fs.take es.length ++ fs.drop es.length = fs := List.take_append_drop ..
  have lt : (fs.take es.length).length = es.length := by rw [List.length_take]; omega
  have ld : (fs.drop es.length).length = r := by rw [List.length_drop]; omega
  have c1 : cd fs = tcode (fs.drop es.length) (cd (fs.take es.length)) := by
    unfold cd
    rw [← tcode_app, hd]
  obtain ⟨b1, b2⟩ := tcode_bd (fs.drop es.length) (cd (fs.take es.length)) (fun e he => h2 e (List.mem_of_mem_drop he))
  rw [ld, ← c1] at b1 b2
  have x1 : cd (fs.take es.length) < cd es + 1 := Nat.lt_of_mul_lt_mul_right (Nat.lt_of_le_of_lt b1 b)
  have x2 : cd es < cd (fs.take es.length) + 1 := Nat.lt_of_mul_lt_mul_right (Nat.lt_of_le_of_lt a b2)
  have x3 := (tcode_inj (fs.take es.length) es 0 0 lt (fun e he => h2 e (List.mem_of_mem_take he)) h1 (show cd _ = cd _ by omega)).1
  refine ⟨fs.drop es.length, ?_⟩
  rw [x3] at hd
  exact hd.symm
/-- all terms are set, and allowed -/
def full (f : Nat → Lw) (W fs : List Nat) : Prop := fs.length = W.length ∧ okk f W fs
def bnd (lim : Nat) : Option (Nat × List Nat) → Nat
  | none => lim
  | some (P, _) => P
/-- the best of all terms whose code is below T -/
def bst (f : Nat → Lw) (pw : Nat → Nat → Nat) (W : List Nat) (lim T : Nat) (o : Option (Nat × List Nat)) : Prop :=
  (∀ fs, full f W fs → cd fs < T → Safe (lws f W fs) 0 → bnd lim o ≤ prc pw W fs) ∧ ∀ P c, o = some (P, c) → full f W c ∧ cd c < T ∧ Safe (lws f W c) 0 ∧ prc pw W c = P ∧ ∀ fs, full f W fs → cd fs < T → Safe (lws f W fs) 0 → P = prc pw W fs → cd c ≤ cd fs
section BEST
variable {f : Nat → Lw} {pw : Nat → Nat → Nat} {W : List Nat} {lim lim' T T' : Nat} {o o' : Option (Nat × List Nat)}
theorem bst_skip (h : bst f pw W lim T o) (hT : T ≤ T') (hs : ∀ fs, full f W fs → T ≤ cd fs → cd fs < T' → Safe (lws f W fs) 0 → bnd lim o ≤ prc pw W fs) : bst f pw W lim T' o := by
  refine ⟨fun fs a b c => ?_, fun P c e => ?_⟩
  · by_cases z : cd fs < T
    · exact h.1 fs a z c
    · exact hs fs a (by omega) b c
  · obtain ⟨h1, h2, h3, h4, h5⟩ := h.2 P c e
    refine ⟨h1, by omega, h3, h4, fun fs a b c' hp => ?_⟩
    by_cases z : cd fs < T
    · exact h5 fs a z c' hp
    · omega
theorem bst_set {fs : List Nat} (h : bst f pw W lim (cd fs) o) (hf : full f W fs) (hS : Safe (lws f W fs) 0) (hp : prc pw W fs < bnd lim o) : bst f pw W lim (cd fs + 1) (some (prc pw W fs, fs)) := by
  have eqf : ∀ gs, full f W gs → ¬ cd gs < cd fs → cd gs < cd fs + 1 → gs = fs := fun gs hg a b => (tcode_inj gs fs 0 0 (hg.1.trans hf.1.symm) (okk_dig hg.2) (okk_dig hf.2) (show cd gs = cd fs by omega)).1
  refine ⟨fun gs hg hlt hs => ?_, fun P c e => ?_⟩
  · show prc pw W fs ≤ prc pw W gs
    by_cases z : cd gs < cd fs
    · have := h.1 gs hg z hs
      omega
    · rw [eqf gs hg z hlt]
      exact Nat.le_refl _
  · cases e
    refine ⟨hf, by omega, hS, rfl, fun gs hg hlt hs hpp => ?_⟩
    by_cases z : cd gs < cd fs
    · have := h.1 gs hg z hs
      omega
    · rw [eqf gs hg z hlt]
      exact Nat.le_refl _
theorem bst_1 (h : bst f pw W lim T o) (h' : bst f pw W lim' T o') {fs : List Nat} (hf : full f W fs) (hT : cd fs < T) (hS : Safe (lws f W fs) 0) (hl : prc pw W fs < lim) (hl' : prc pw W fs < lim') : ∃ P c, o = some (P, c) ∧ o' = some (P, c) ∧ full f W c := by
  have g1 := h.1 fs hf hT hS
  have g2 := h'.1 fs hf hT hS
  cases o with
  | none => exact absurd hl (by show ¬ _; simp only [bnd] at g1; omega)
  | some x =>
    obtain ⟨P, c⟩ := x
    cases o' with
    | none => exact absurd hl' (by show ¬ _; simp only [bnd] at g2; omega)
    | some y =>
      obtain ⟨P', c'⟩ := y
      obtain ⟨a1, a2, a3, a4, a5⟩ := h.2 P c rfl
      obtain ⟨b1, b2, b3, b4, b5⟩ := h'.2 P' c' rfl
      have x1 : P ≤ P' := by have := h.1 c' b1 b2 b3; simp only [bnd] at this; omega
      have x2 : P' ≤ P := by have := h'.1 c a1 a2 a3; simp only [bnd] at this; omega
      have x3 := a5 c' b1 b2 b3 (by omega)
      have x4 := b5 c a1 a2 a3 (by omega)
      have x5 := (tcode_inj c c' 0 0 (a1.1.trans b1.1.symm) (okk_dig a1.2) (okk_dig b1.2) (show cd c = cd c' by omega)).1
      subst x5
      rw [show P' = P by omega]
      exact ⟨P, c, rfl, rfl, a1⟩
end BEST
