/-! want: the whole line -/
theorem sI_self (S : RS) (k : Nat) {x : Int32} (h : S.1 k = x) : sI S k x = S := by
  unfold sI
  refine Prod.ext (funext fun j => ?_) rfl
  show up S.1 k x j = S.1 j
  by_cases q : j = k
  · subst q
    rw [up_same, h]
  · rw [up_ne q]
theorem tS_self {T : RS} {p f : Int32} (h2 : T.1 2 = p) (h3 : T.1 3 = f) : tS T p f = T := by
  unfold tS
  rw [sI_self T 3 h3, sI_self T 2 h2]
theorem mS_self {S : RS} {p d f : Int32} (h35 : S.1 35 = p) (h36 : S.1 36 = d) (h37 : S.1 37 = f) : mS S p d f = S := by
  unfold mS
  rw [sI_self S 37 h37, sI_self S 36 h36, sI_self S 35 h35]
section WANT
variable {N k n : Nat} {b : Nat → Nat}
theorem rdX {T S : RS} {p : Nat} (hT : tR k b T) (hS : mR k b S) (hN : 100 ≤ N) (hp : p ≤ k) (e2 : T.1 2 = nI p) (e3 : T.1 3 = -1) (e35 : S.1 35 = nI p) (e36 : S.1 36 = nI 0) (e37 : S.1 37 = -1) : ∃ (ok : Bool) (v : Int64) (q : Nat), q ≤ k ∧ (ok = true → p < q) ∧ (∀ Q, o3 T ok v q Q → fX3_either N T 0 Q) ∧ (∀ Q, o6 S 0 ok v q Q → fX6_any N S Q) := by
  obtain ⟨ok, v, q, h1, h2, h3, h4⟩ := rd hT hS hN p hp
  rw [tS_self e2 e3, mS_self e35 e36 e37] at *
  exact ⟨ok, v, q, h1, h2, fun Q hQ => h3 50 Q (by omega) hQ, fun Q hQ => h4 40 Q (by omega) hQ⟩
theorem e_eitherX {T : RS} {p f : Int32} {Q : Int64 → RS → Prop} (hN : 100 ≤ N) (hf : ¬ f = -1) (h : ∀ v, Q v (tS T p f)) : fX3_either N (tS T p f) 0 Q := by
  obtain ⟨n, rfl⟩ : ∃ n', N = n' + 1 := ⟨N - 1, by omega⟩
  show bX3_single (gX3 (n + 1) 47 3) (gX3 (n + 1) 47 4) (n + 1) _ _ _
  unfold bX3_single
  refine e_lookX hf ⟨fun c => absurd c (by decide), fun c => absurd c (by decide), fun c => absurd c (by decide), fun c => absurd c (by decide), fun c => absurd c (by decide), fun c => absurd c (by decide), fun c => absurd c (by decide), fun c => absurd c (by decide), fun c => absurd c (by decide), fun c => absurd c (by decide), fun _ => e_missX hf ?_⟩
  refine ⟨fun _ => ?_, fun _ => e_lookX hf ⟨fun _ => ?_, fun c => absurd c (by decide)⟩⟩
  · exact ⟨fun _ => h _, fun _ => e_lookX hf ⟨fun _ => h _, fun c => absurd c (by decide)⟩⟩
  · exact ⟨fun _ => h _, fun _ => e_lookX hf ⟨fun _ => h _, fun c => absurd c (by decide)⟩⟩
/-- what the reading of a line may change of the reference -/
def fr (n : Nat) (S S' : RS) : Prop := (∀ j, j < 35 → S'.1 j = S.1 j) ∧ (∀ j, j ≠ 3 → j ≠ 4 → S'.2.1 j = S.2.1 j) ∧ (∀ i, i ≠ n → S'.2.1 3 i = S.2.1 3 i ∧ S'.2.1 4 i = S.2.1 4 i ∧ S'.2.2.2 5 i = S.2.2.2 5 i ∧ S'.2.2.2 6 i = S.2.2.2 6 i)
variable {S S' : RS}
theorem fr_I (h : fr n S S') {j : Nat} (hj : 35 ≤ j) (x : Int32) : fr n S (sI S' j x) := ⟨fun i hi => by rw [← h.1 i hi]; exact up_ne (by omega), h.2.1, h.2.2⟩
theorem fr_m (h : fr n S S') (p d f : Int32) : fr n S (mS S' p d f) := fr_I (fr_I (fr_I h (by omega) _) (by omega) _) (by omega) _
theorem fr_3 (h : fr n S S') (x : Int32) : fr n S (sA S' 3 (upd (S'.2.1 3) n x)) := ⟨h.1, fun j h3 h4 => by rw [← h.2.1 j h3 h4]; exact up_ne h3, fun i hi => ⟨(pk_un hi).trans (h.2.2 i hi).1, (h.2.2 i hi).2⟩⟩
theorem fr_4 (h : fr n S S') (x : Int32) : fr n S (sA S' 4 (upd (S'.2.1 4) n x)) := ⟨h.1, fun j h3 h4 => by rw [← h.2.1 j h3 h4]; exact up_ne h4, fun i hi => ⟨(h.2.2 i hi).1, (pk_un hi).trans (h.2.2 i hi).2.1, (h.2.2 i hi).2.2⟩⟩
theorem fr_5 (h : fr n S S') (x : Int64) : fr n S (sM S' 5 (vp_updL (S'.2.2.2 5) n x)) := ⟨h.1, h.2.1, fun i hi => ⟨(h.2.2 i hi).1, (h.2.2 i hi).2.1, (pk_uLn hi).trans (h.2.2 i hi).2.2.1, (h.2.2 i hi).2.2.2⟩⟩
theorem fr_6 (h : fr n S S') (x : Int64) : fr n S (sM S' 6 (vp_updL (S'.2.2.2 6) n x)) := ⟨h.1, h.2.1, fun i hi => ⟨(h.2.2 i hi).1, (h.2.2 i hi).2.1, (h.2.2 i hi).2.2.1, (pk_uLn hi).trans (h.2.2 i hi).2.2.2⟩⟩
theorem fr_R (h : fr n S S') (hS : mR k b S) : mR k b S' := ⟨hS.1, (h.1 2 (by omega)).trans hS.2.1, fun j hj => by rw [h.2.1 1 (by decide) (by decide)]; exact hS.2.2.1 j hj, hS.2.2.2⟩
variable {v1 v2 v3 : Int32} {Q : Int32 → RS → Prop}
theorem w275X {x : Int32} (h37 : 0 ≤ S.1 37) (h : fX6_want_299 N S v1 v2 v3 x Q) : fX6_want_275 N S v1 v2 v3 x Q := ⟨fun _ => h, fun c => absurd h37 c⟩
theorem w244X {x : Int32} (h37 : 0 ≤ S.1 37) (h : fX6_want_299 N S v1 v2 v3 x Q) : fX6_want_244 N S v1 v2 v3 x Q := ⟨fun _ => w275X h37 h, fun c => absurd h37 c⟩
theorem w213X {x : Int32} (h37 : 0 ≤ S.1 37) (h : fX6_want_299 N S v1 v2 v3 x Q) : fX6_want_213 N S v1 v2 v3 x Q := ⟨fun _ => w244X h37 h, fun c => absurd h37 c⟩
theorem w166X {x y : Int32} (h37 : 0 ≤ S.1 37) (h : fX6_want_299 N S v1 v2 v3 x Q) : fX6_want_166 N S v1 v2 v3 x y Q := ⟨fun _ => w213X h37 h, fun c => absurd h37 c⟩
/-- the end of the line, reference: at place q without a fault -/
theorem w275 {x : Int32} {q : Nat} (hS : mR k b S) (hq : q ≤ k) (h35 : S.1 35 = nI q) (h37 : S.1 37 = -1) (h1 : q = k → fX6_want_299 N S v1 v2 v3 x Q) (h0 : q < k → fX6_want_299 N (sI S 37 (nI q)) v1 v2 v3 x Q) : fX6_want_275 N S v1 v2 v3 x Q := by
  have hk := hS.1
  refine ⟨fun c => absurd (by rw [h37] at c; exact c) (by decide), fun _ => ?_⟩
  rw [h35, hS.2.1]
  refine ⟨fun c => h1 ?_, fun c => ?_⟩
  · have := (nI_leI (by omega) (by omega)).mp c
    omega
  · have hlt : q < k := by
      rcases Nat.lt_or_ge q k with a | a
      · exact a
      · exact absurd (nI_le a (by omega)) c
    refine ⟨fun c => absurd (by rw [h37] at c; exact c) (by decide), fun _ => ?_⟩
    rw [h35]
    exact nm_e (h0 hlt)
theorem e_lookX' {T : RS} {R : Int32 → Prop} (hf : ¬ T.1 3 = -1) (h : R (-1)) : fX3_look N T R := ⟨fun _ => h, fun c => absurd c hf⟩
theorem e_missX' {T : RS} {R : Int64 → RS → Prop} (hf : ¬ T.1 3 = -1) (h : R 0 T) : fX3_miss N T R := ⟨fun _ => h, fun c => absurd c hf⟩
theorem e_miss' {T : RS} {R : Int64 → RS → Prop} {x : Int32} (e3 : T.1 3 = -1) (e2 : T.1 2 = x) (h : R 0 (sI T 3 x)) : fX3_miss N T R := ⟨fun c => absurd e3 c, fun _ => nm_e (by rw [e2]; exact h)⟩
theorem e_eitherX' {T : RS} {R : Int64 → RS → Prop} (hN : 100 ≤ N) (hf : ¬ T.1 3 = -1) (h : ∀ v, R v T) : fX3_either N T 0 R := by
  have := e_eitherX (N := N) (T := T) (p := T.1 2) (f := T.1 3) (Q := R) hN hf (by rw [tS_self rfl rfl]; exact h)
  rw [tS_self rfl rfl] at this
  exact this
theorem e_look' {T : RS} {R : Int32 → Prop} {p : Nat} (hT : tR k b T) (hp : p ≤ k) (e2 : T.1 2 = nI p) (e3 : T.1 3 = -1) (h : R (lok b k p)) : fX3_look N T R := by
  rw [← tS_self e2 e3]
  exact e_look hT hp h
theorem e_byteAt' {S : RS} {R : Int32 → Prop} {p : Nat} (hS : mR k b S) (hp : p < 1000) (e : S.1 35 = nI p) (h : R (nI (tk b k p))) : fX6_byteAt N S R := by
  rw [← mS_self e rfl rfl]
  exact e_byteAt hS hp h
theorem e_wrong' {S : RS} {R : Int64 → RS → Prop} {x : Int32} (e37 : S.1 37 = -1) (e35 : S.1 35 = x) (h : R 0 (sI S 37 x)) : fX6_wrong N S R := ⟨fun c => absurd (by rw [e37] at c; exact c) (by decide), fun _ => nm_e (by rw [e35]; exact h)⟩
theorem p90X {T : RS} {f : Nat} (hf : f < 2 ^ 31) (e3 : T.1 3 = nI f) (h : Q (nI f) T) : fX3_parse_90 N T Q := e_lookX' (by rw [e3]; exact fne hf) ⟨fun _ => (by rw [e3]; exact h), fun c => absurd rfl c⟩
theorem p90 {T : RS} {q : Nat} (hT : tR k b T) (hq : q ≤ k) (e2 : T.1 2 = nI q) (e3 : T.1 3 = -1) (h1 : q = k → Q (-1) T) (h0 : q < k → Q (nI q) (sI T 3 (nI q))) : fX3_parse_90 N T Q := by
  have hk := hT.1
  unfold fX3_parse_90
  rw [← tS_self e2 e3]
  refine e_look hT hq ?_
  rw [tS_self e2 e3]
  unfold lok
  by_cases c : q < k
  · rw [if_pos c]
    refine ⟨fun e => absurd e (fne (by have := hT.2.2.2 q c; omega)), fun _ => ⟨fun c => absurd e3 c, fun _ => ?_⟩⟩
    rw [e2]
    exact nm_e (h0 c)
  · rw [if_neg c]
    refine ⟨fun _ => ?_, fun c => absurd rfl c⟩
    rw [e3]
    exact h1 (by omega)
/-- the reference's reading, from behind the checks -/
def wR (N : Nat) (S : RS) (v1 v2 v3 : Int32) (Q : Int32 → RS → Prop) : Prop := (∀ S8 : RS, S8 = sI S 35 0 → (∀ S9 : RS, S9 = sI S8 36 0 → (∀ S10 : RS, S10 = sI S9 37 (-1) → (∀ x11 : Int32, x11 = S10.1 13 → (vp_in x11 20 ∧ (∀ S13 : RS, S13 = sM S10 6 (vp_updL (S10.2.2.2 6) x11.toNatClampNeg 0) → (vp_in x11 20 ∧ (∀ S15 : RS, S15 = sA S13 4 (upd (S13.2.1 4) x11.toNatClampNeg 0) → (fX6_byteAt N S15 (fun r16 => ((¬ r16 = 33 → (fX6_any N S15 (fun r18 S19 => (vp_in x11 20 ∧ (∀ S21 : RS, S21 = sM S19 5 (vp_updL (S19.2.2.2 5) x11.toNatClampNeg r18) → (fX6_byteAt N S21 (fun r22 => ((0 ≤ (S21.1 37) → (fX6_want_166 N S21 v1 v2 v3 x11 r22 Q)) ∧ (¬ 0 ≤ (S21.1 37) → ((r22 = 62 → (fX6_want_166 N S21 v1 v2 v3 x11 r22 Q)) ∧ (¬ r22 = 62 → ((r22 = 59 → (fX6_want_166 N S21 v1 v2 v3 x11 r22 Q)) ∧ (¬ r22 = 59 → (fX6_wrong N S21 (fun r67 S68 => (fX6_want_166 N S68 v1 v2 v3 x11 r22 Q)))))))))))))))) ∧ (r16 = 33 → (vp_in x11 20 ∧ (∀ S70 : RS, S70 = sA S15 3 (upd (S15.2.1 3) x11.toNatClampNeg 0) → (∀ S71 : RS, S71 = sI S70 35 ((S70.1 35) + (1 : Int32)) → (fX6_any N S71 (fun r72 S73 => (vp_in x11 20 ∧ (∀ S75 : RS, S75 = sM S73 5 (vp_updL (S73.2.2.2 5) x11.toNatClampNeg r72) → (fX6_want_275 N S75 v1 v2 v3 x11 Q))))))))))))))))))))
def F3 (ok : Bool) (k a m : Nat) (E F : Int64) (f : Nat) (Q : Int32 → RS → Prop) : Prop := (ok = true → ∀ T' : RS, T'.1 1 = nI k → T'.1 4 = nI a → T'.1 5 = nI m → T'.2.2.1 6 = E → T'.2.2.1 7 = F → Q (-1) T') ∧ (ok = false → ∀ T' : RS, Q (nI f) T')
def F6 (N n : Nat) (S : RS) (ok : Bool) (a m : Nat) (E F : Int64) (f : Nat) (v1 v2 v3 : Int32) (Q : Int32 → RS → Prop) : Prop := (ok = true → ∀ S' : RS, fr n S S' → S'.1 37 = -1 → S'.2.1 3 n = nI a → S'.2.1 4 n = nI m → S'.2.2.2 5 n = E → S'.2.2.2 6 n = F → fX6_want_299 N S' v1 v2 v3 (nI n) Q) ∧ (ok = false → ∀ S' : RS, fr n S S' → S'.1 37 = nI f → fX6_want_299 N S' v1 v2 v3 (nI n) Q)
theorem pos37 {S' : RS} {f : Nat} (hf : f < 2 ^ 31) (h : S'.1 37 = nI f) : 0 ≤ S'.1 37 := by rw [h]; exact nI_pos' hf
theorem neg37 {x : Int32} (h : x = -1) : ¬ 0 ≤ x := by rw [h]; decide
/-- the rest of a line behind a fault, class -/
theorem tail2X {T : RS} {f : Nat} (hf : f < 2 ^ 31) (e3 : T.1 3 = nI f) (h : ∀ T' : RS, Q (nI f) T') : fX3_readDigit N T (fun r16 T17 => (∀ T18 : RS, T18 = sI T17 5 r16 → (fX3_parse_90 N T18 Q))) :=
  e_lookX' (by rw [e3]; exact fne hf) ⟨fun _ => e_missX' (by rw [e3]; exact fne hf) (nm_e (p90X hf e3 (h _))), fun c => absurd (by decide) c⟩
theorem tail3X {T : RS} {f : Nat} {x : Int32} (hN : 100 ≤ N) (hf : f < 2 ^ 31) (e3 : T.1 3 = nI f) (h : ∀ T' : RS, Q (nI f) T') : (∀ T12 : RS, T12 = sI T 4 x → (fX3_either N T12 0 (fun r13 T14 => (∀ T15 : RS, T15 = sL T14 7 r13 → (fX3_readDigit N T15 (fun r16 T17 => (∀ T18 : RS, T18 = sI T17 5 r16 → (fX3_parse_90 N T18 Q)))))))) :=
  nm_e (e_eitherX' hN (show ¬ T.1 3 = -1 by rw [e3]; exact fne hf) (fun v => nm_e (tail2X hf (show T.1 3 = nI f from e3) h)))
end WANT
