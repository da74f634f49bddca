/-! the reader: one result for both sides -/
theorem sI_2 (S : RS) (k : Nat) (x y : Int32) : sI (sI S k x) k y = sI S k y := by
  unfold sI
  refine Prod.ext (funext fun j => ?_) rfl
  show up (up S.1 k x) k y j = up S.1 k y j
  by_cases q : j = k
  · subst q
    rw [up_same, up_same]
  · rw [up_ne q, up_ne q, up_ne q]
theorem sI_c (S : RS) {k i : Nat} (h : k ≠ i) (x y : Int32) : sI (sI S k x) i y = sI (sI S i y) k x := by
  unfold sI
  refine Prod.ext (funext fun j => ?_) rfl
  show up (up S.1 k x) i y j = up (up S.1 i y) k x j
  by_cases q : j = k
  · subst q
    rw [up_same, up_ne h, up_same]
  · by_cases q2 : j = i
    · subst q2
      rw [up_same, up_ne q, up_same]
    · rw [up_ne q2, up_ne q, up_ne q, up_ne q2]
/-- the tape at a place with a fault -/
def tS (T : RS) (p f : Int32) : RS := sI (sI T 3 f) 2 p
def mS (S : RS) (p d f : Int32) : RS := sI (sI (sI S 37 f) 36 d) 35 p
theorem tS_p (T : RS) (p f q : Int32) : sI (tS T p f) 2 q = tS T q f := sI_2 _ _ _ _
theorem tS_f (T : RS) (p f q : Int32) : sI (tS T p f) 3 q = tS T p q := by
  unfold tS
  rw [sI_c _ (by decide), sI_2]
theorem mS_p (S : RS) (p d f q : Int32) : sI (mS S p d f) 35 q = mS S q d f := sI_2 _ _ _ _
theorem mS_d (S : RS) (p d f q : Int32) : sI (mS S p d f) 36 q = mS S p q f := by
  unfold mS
  rw [sI_c _ (by decide), sI_2]
theorem mS_f (S : RS) (p d f q : Int32) : sI (mS S p d f) 37 q = mS S p d q := by
  unfold mS
  rw [sI_c _ (by decide), sI_c (sI S 37 f) (by decide), sI_2]
section READER
variable {N k : Nat} {b : Nat → Nat} {T S : RS}
/-- the byte there; 0 behind the end -/
def tk (b : Nat → Nat) (k p : Nat) : Nat := if p < k then b p else 0
def tR (k : Nat) (b : Nat → Nat) (T : RS) : Prop := k ≤ 80 ∧ T.1 1 = nI k ∧ (∀ j, j < k → T.2.1 0 j = nI (b j)) ∧ (∀ j, j < k → b j < 256)
def mR (k : Nat) (b : Nat → Nat) (S : RS) : Prop := k ≤ 80 ∧ S.1 2 = nI k ∧ (∀ j, j < k → S.2.1 1 j = nI (b j)) ∧ (∀ j, j < k → b j < 256)
theorem tk_lt (h : ∀ j, j < k → b j < 256) (p : Nat) : tk b k p < 256 := by
  unfold tk
  by_cases q : p < k
  · rw [if_pos q]; exact h p q
  · rw [if_neg q]; omega
def lok (b : Nat → Nat) (k p : Nat) : Int32 := if p < k then nI (b p) else -1
theorem e_look {p : Nat} {Q : Int32 → Prop} (hT : tR k b T) (hp : p ≤ k) (h : Q (lok b k p)) : fX3_look N (tS T (nI p) (-1)) Q := by
  obtain ⟨hk, h1, h2, -⟩ := hT
  refine ⟨fun c => absurd rfl c, fun _ => ?_⟩
  show ((T.1 1 ≤ nI p → Q (-1)) ∧ (¬ T.1 1 ≤ nI p → ((80 ≤ nI p → Q (-1)) ∧ (¬ 80 ≤ nI p → (vp_in (nI p) 80 ∧ Q (T.2.1 0 (nI p).toNatClampNeg))))))
  unfold lok at h
  by_cases q : p < k
  · rw [if_pos q] at h
    refine lp_in h1 (by omega) q ⟨fun c => absurd (show nI 80 ≤ nI p from c) (nI_ge (by omega) (by omega)), fun _ => ⟨vp_in_nI (by omega) (by omega), ?_⟩⟩
    rw [nI_clamp (by omega), h2 p q]
    exact h
  · rw [if_neg q] at h
    rw [show p = k by omega]
    exact lp_end h1 h
theorem e_lookX {p f : Int32} {Q : Int32 → Prop} (hf : ¬ f = -1) (h : Q (-1)) : fX3_look N (tS T p f) Q := ⟨fun _ => h, fun c => absurd c hf⟩
theorem e_byteAt {p : Nat} {d f : Int32} {Q : Int32 → Prop} (hS : mR k b S) (hp : p < 1000) (h : Q (nI (tk b k p))) : fX6_byteAt N (mS S (nI p) d f) Q := by
  obtain ⟨hk, h1, h2, -⟩ := hS
  show ((S.1 2 ≤ nI p → Q 0) ∧ (¬ S.1 2 ≤ nI p → (vp_in (nI p) 80 ∧ Q (S.2.1 1 (nI p).toNatClampNeg))))
  unfold tk at h
  by_cases q : p < k
  · rw [if_pos q] at h
    refine lp_in h1 (by omega) q ⟨vp_in_nI (by omega) (by omega), ?_⟩
    rw [nI_clamp (by omega), h2 p q]
    exact h
  · rw [if_neg q] at h
    refine ⟨fun _ => h, fun c => absurd ?_ c⟩
    rw [h1]
    exact nI_le (by omega) (by omega)
theorem lok_eq {p c : Nat} (hb : ∀ j, j < k → b j < 256) (h0 : 0 < c) (hc : c < 256) : lok b k p = nI c ↔ tk b k p = c := by
  unfold lok tk
  by_cases q : p < k
  · rw [if_pos q, if_pos q]
    have := hb p q
    exact nI_eq (by omega) (by omega)
  · rw [if_neg q, if_neg q]
    refine ⟨fun e => ?_, fun e => by omega⟩
    exfalso
    have : (nI c).toInt = -1 := by rw [← e]; decide
    rw [nI_toInt (by omega)] at this
    omega
theorem tk_p {p : Nat} (h : 0 < tk b k p) : p < k := by
  unfold tk at h
  by_cases q : p < k
  · exact q
  · rw [if_neg q] at h; omega
theorem nIe {a c : Nat} (ha : a < 256) (hc : c < 256) : nI a = nI c ↔ a = c := nI_eq (by omega) (by omega)
theorem e_miss {p : Nat} {Q : Int64 → RS → Prop} (h : Q 0 (tS T (nI p) (nI p))) : fX3_miss N (tS T (nI p) (-1)) Q := by
  refine ⟨fun c => absurd rfl c, fun _ => nm_e ?_⟩
  rw [tS_f]
  exact h
theorem e_missX {p f : Int32} {Q : Int64 → RS → Prop} (hf : ¬ f = -1) (h : Q 0 (tS T p f)) : fX3_miss N (tS T p f) Q := ⟨fun _ => h, fun c => absurd c hf⟩
theorem e_wrong {p : Nat} {d : Int32} {Q : Int64 → RS → Prop} (h : Q 0 (mS S (nI p) d (nI p))) : fX6_wrong N (mS S (nI p) d (-1)) Q := by
  refine ⟨fun c => absurd (show (0 : Int32) ≤ -1 from c) (by decide), fun _ => nm_e ?_⟩
  rw [mS_f]
  exact h
theorem e_wrongX {p d f : Int32} {Q : Int64 → RS → Prop} (hf : 0 ≤ f) (h : Q 0 (mS S p d f)) : fX6_wrong N (mS S p d f) Q := by
  refine ⟨fun _ => nm_e ?_, fun c => absurd hf c⟩
  rw [mS_f]
  exact h
/-- what a reading gives: ok, the value and the place behind; or the fault's place -/
def o3 (T : RS) (ok : Bool) (v : Int64) (q : Nat) (Q : Int64 → RS → Prop) : Prop := (ok = true → Q v (tS T (nI q) (-1))) ∧ (ok = false → ∀ v' q', Q v' (tS T q' (nI q)))
def o6 (S : RS) (d : Nat) (ok : Bool) (v : Int64) (q : Nat) (Q : Int64 → RS → Prop) : Prop := (ok = true → Q v (mS S (nI q) (nI d) (-1))) ∧ (ok = false → ∀ v' q' d', q' ≤ 90 - d → Q v' (mS S (nI q') d' (nI q)))
/-- both readers of class c, at depth d, from place p -/
def rdr (N k : Nat) (T S : RS) (c d : Nat) : Prop := ∀ p, p ≤ k → ∃ (ok : Bool) (v : Int64) (q : Nat), q ≤ k ∧ (ok = true → p < q) ∧ (∀ dn Q, 4 * (10 - d) + (3 - c) ≤ dn → o3 T ok v q Q → gX3 N dn c (tS T (nI p) (-1)) (nI d) Q) ∧ (∀ dn Q, 3 * (10 - d) + (3 - c) ≤ dn → o6 S d ok v q Q → gX6 N dn c (mS S (nI p) (nI d) (-1)) Q)
theorem fne {q : Nat} (hq : q < 2 ^ 31) : ¬ nI q = -1 := fun e => by
  have : (nI q).toInt = -1 := by rw [e]; decide
  rw [nI_toInt hq] at this
  omega
/-- the loop behind the first: bars -/
theorem rd_any (hT : tR k b T) (hS : mR k b S) (hN : 100 ≤ N) {d : Nat} (hd : d ≤ 10) (h : rdr N k T S 1 d) : rdr N k T S 0 d := by
  have hk := hT.1
  have hb := hT.2.2.2
  have loop : ∀ (m p : Nat) (v : Int64) (i : Nat), k - p ≤ m → p ≤ k → i < p → ∃ (ok : Bool) (v' : Int64) (q : Nat), q ≤ k ∧ (ok = true → p ≤ q) ∧ (∀ dn n Q, 4 * (10 - d) + 2 ≤ dn → m + 1 < n → o3 T ok v' q Q → fX3_either_9 (gX3 N dn 1) N (nI d) (fun x T => Q x T) Q n v (nI i) (tS T (nI p) (-1))) ∧ (∀ dn n Q, 3 * (10 - d) + 2 ≤ dn → m + 1 < n → o6 S d ok v' q Q → fX6_any_5 (gX6 N dn 1) N (fun x S => Q x S) Q n v (mS S (nI p) (nI d) (-1))) := by
    intro m
    induction m with
    | zero =>
      intro p v i hm hp hi
      have hz : tk b k p = 0 := if_neg (by omega)
      refine ⟨true, v, p, hp, fun _ => Nat.le_refl _, fun dn n Q _ hn ho => ?_, fun dn n Q _ hn ho => ?_⟩
      · obtain ⟨n, rfl⟩ : ∃ n', n = n' + 1 := ⟨n - 1, by omega⟩
        refine ⟨fun c => ho.1 rfl, fun _ => e_look hT hp ⟨fun _ => ho.1 rfl, fun c => ?_⟩⟩
        have := (lok_eq (k := k) (p := p) (c := 124) hb (by omega) (by omega)).mp c
        omega
      · obtain ⟨n, rfl⟩ : ∃ n', n = n' + 1 := ⟨n - 1, by omega⟩
        refine ⟨fun c => absurd (show (0 : Int32) ≤ -1 from c) (by decide), fun _ => e_byteAt hS (by omega) ⟨fun _ => ho.1 rfl, fun c => ?_⟩⟩
        have := (nIe (tk_lt hb p) (by omega)).mp (show nI (tk b k p) = nI 124 from c)
        omega
    | succ m ih =>
      intro p v i hm hp hi
      by_cases h124 : tk b k p = 124
      · have hpk := tk_p (b := b) (k := k) (p := p) (by omega)
        obtain ⟨ok, r, q, hq, hpq, g3, g6⟩ := h (p + 1) (by omega)
        cases ok with
        | false =>
          refine ⟨false, 0, q, hq, fun c => (by cases c), fun dn n Q hdn hn ho => ?_, fun dn n Q hdn hn ho => ?_⟩
          · obtain ⟨n, rfl⟩ : ∃ n', n = n' + 1 := ⟨n - 1, by omega⟩
            refine ⟨fun c => absurd (show nI 80 ≤ nI i from c) (nI_ge (by omega) (by omega)), fun _ => e_look hT hp ⟨fun c => absurd ((lok_eq hb (by omega) (by omega)).mpr h124) c, fun _ => nm_e ?_⟩⟩
            rw [tS_p, show (tS T (nI p) (-1)).1 2 = nI p from rfl, nI_1]
            refine g3 dn _ hdn ⟨fun c => (by cases c), fun _ v' q' => nm_e (nm_e ?_)⟩
            obtain ⟨n, rfl⟩ : ∃ n', n = n' + 1 := ⟨n - 1, by omega⟩
            exact ⟨fun c => ho.2 rfl _ _, fun _ => e_lookX (fne (by omega)) ⟨fun _ => ho.2 rfl _ _, fun c => absurd c (by decide)⟩⟩
          · obtain ⟨n, rfl⟩ : ∃ n', n = n' + 1 := ⟨n - 1, by omega⟩
            refine ⟨fun c => absurd (show (0 : Int32) ≤ -1 from c) (by decide), fun _ => e_byteAt hS (by omega) ⟨fun c => absurd (by rw [h124]; rfl) c, fun _ => nm_e ?_⟩⟩
            rw [mS_p, show (mS S (nI p) (nI d) (-1)).1 35 = nI p from rfl, nI_1]
            refine g6 dn _ hdn ⟨fun c => (by cases c), fun _ v' q' d' hq' => nm_e ?_⟩
            obtain ⟨n, rfl⟩ : ∃ n', n = n' + 1 := ⟨n - 1, by omega⟩
            exact ⟨fun _ => ho.2 rfl _ _ _ hq', fun c => absurd (nI_pos' (by omega)) c⟩
        | true =>
          have hq1 := hpq rfl
          obtain ⟨ok2, v2, q2, hq2, hpq2, l3, l6⟩ := ih q (v ||| r) (i + 1) (by omega) hq (by omega)
          refine ⟨ok2, v2, q2, hq2, fun c => (by have := hpq2 c; omega), fun dn n Q hdn hn ho => ?_, fun dn n Q hdn hn ho => ?_⟩
          · obtain ⟨n, rfl⟩ : ∃ n', n = n' + 1 := ⟨n - 1, by omega⟩
            refine ⟨fun c => absurd (show nI 80 ≤ nI i from c) (nI_ge (by omega) (by omega)), fun _ => e_look hT hp ⟨fun c => absurd ((lok_eq hb (by omega) (by omega)).mpr h124) c, fun _ => nm_e ?_⟩⟩
            rw [tS_p, show (tS T (nI p) (-1)).1 2 = nI p from rfl, nI_1]
            exact g3 dn _ hdn ⟨fun _ => nm_e (nm_r (nI_1 i) (l3 dn n Q hdn (by omega) ho)), fun c => by cases c⟩
          · obtain ⟨n, rfl⟩ : ∃ n', n = n' + 1 := ⟨n - 1, by omega⟩
            refine ⟨fun c => absurd (show (0 : Int32) ≤ -1 from c) (by decide), fun _ => e_byteAt hS (by omega) ⟨fun c => absurd (by rw [h124]; rfl) c, fun _ => nm_e ?_⟩⟩
            rw [mS_p, show (mS S (nI p) (nI d) (-1)).1 35 = nI p from rfl, nI_1]
            exact g6 dn _ hdn ⟨fun _ => nm_e (l6 dn n Q hdn (by omega) ho), fun c => by cases c⟩
      · refine ⟨true, v, p, hp, fun _ => Nat.le_refl _, fun dn n Q _ hn ho => ?_, fun dn n Q _ hn ho => ?_⟩
        · obtain ⟨n, rfl⟩ : ∃ n', n = n' + 1 := ⟨n - 1, by omega⟩
          refine ⟨fun c => ho.1 rfl, fun _ => e_look hT hp ⟨fun _ => ho.1 rfl, fun c => ?_⟩⟩
          exact absurd ((lok_eq (k := k) (p := p) (c := 124) hb (by omega) (by omega)).mp c) h124
        · obtain ⟨n, rfl⟩ : ∃ n', n = n' + 1 := ⟨n - 1, by omega⟩
          refine ⟨fun c => absurd (show (0 : Int32) ≤ -1 from c) (by decide), fun _ => e_byteAt hS (by omega) ⟨fun _ => ho.1 rfl, fun c => ?_⟩⟩
          exact absurd ((nIe (tk_lt hb p) (by omega)).mp (show nI (tk b k p) = nI 124 from c)) h124
  intro p hp
  obtain ⟨ok, r, q, hq, hpq, g3, g6⟩ := h p hp
  cases ok with
  | false =>
    refine ⟨false, 0, q, hq, fun c => (by cases c), fun dn Q hdn ho => ?_, fun dn Q hdn ho => ?_⟩
    · obtain ⟨dn, rfl⟩ : ∃ n', dn = n' + 1 := ⟨dn - 1, by omega⟩
      refine g3 dn _ (by omega) ⟨fun c => (by cases c), fun _ v' q' => ?_⟩
      obtain ⟨n, rfl⟩ : ∃ n', N = n' + 1 := ⟨N - 1, by omega⟩
      exact ⟨fun c => ho.2 rfl _ _, fun _ => e_lookX (fne (by omega)) ⟨fun _ => ho.2 rfl _ _, fun c => absurd c (by decide)⟩⟩
    · obtain ⟨dn, rfl⟩ : ∃ n', dn = n' + 1 := ⟨dn - 1, by omega⟩
      refine g6 dn _ (by omega) ⟨fun c => (by cases c), fun _ v' q' d' hq' => ?_⟩
      obtain ⟨n, rfl⟩ : ∃ n', N = n' + 1 := ⟨N - 1, by omega⟩
      exact ⟨fun _ => ho.2 rfl _ _ _ hq', fun c => absurd (nI_pos' (by omega)) c⟩
  | true =>
    have hq1 := hpq rfl
    obtain ⟨ok2, v2, q2, hq2, hpq2, l3, l6⟩ := loop (k - q) q r 0 (Nat.le_refl _) hq (by omega)
    refine ⟨ok2, v2, q2, hq2, fun c => (by have := hpq2 c; omega), fun dn Q hdn ho => ?_, fun dn Q hdn ho => ?_⟩
    · obtain ⟨dn, rfl⟩ : ∃ n', dn = n' + 1 := ⟨dn - 1, by omega⟩
      exact g3 dn _ (by omega) ⟨fun _ => l3 dn N Q (by omega) (by omega) ho, fun c => by cases c⟩
    · obtain ⟨dn, rfl⟩ : ∃ n', dn = n' + 1 := ⟨dn - 1, by omega⟩
      exact g6 dn _ (by omega) ⟨fun _ => l6 dn N Q (by omega) (by omega) ho, fun c => by cases c⟩
end READER
