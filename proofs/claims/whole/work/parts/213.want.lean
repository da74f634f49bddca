section WANT2
variable {N k n : Nat} {b : Nat → Nat}
theorem parse_both {T S : RS} (hN : 100 ≤ N) (hT : tR k b T) (hS : mR k b S) (hn : n < 20) (e13 : S.1 13 = nI n) : ∃ (ok : Bool) (a m : Nat) (E F : Int64) (f : Nat), f ≤ k ∧ a ≤ 2 ∧ m ≤ 3 ∧ (a = 0 → m = 0) ∧ (∀ Q, F3 ok k a m E F f Q → fX3_parse N T Q) ∧ (∀ v1 v2 v3 Q, F6 N n S ok a m E F f v1 v2 v3 Q → wR N S v1 v2 v3 Q) := by
  have hk := hT.1
  have hb := hT.2.2.2
  have hv : vp_in (nI n) 20 := vp_in_nI hn (by omega)
  have en : (nI n).toNatClampNeg = n := nI_clamp (by omega)
  obtain ⟨T4, e4⟩ : ∃ t, t = sL (sI (sI (sI T 2 0) 3 (-1)) 5 0) 7 0 := ⟨_, rfl⟩
  have hT4 : tR k b T4 := by rw [e4]; exact hT
  have t2 : T4.1 2 = nI 0 := by rw [e4]; rfl
  have t3 : T4.1 3 = -1 := by rw [e4]; rfl
  have t5 : T4.1 5 = nI 0 := by rw [e4]; rfl
  have t7 : T4.2.2.1 7 = 0 := by rw [e4]; rfl
  obtain ⟨S15, e15⟩ : ∃ s, s = sA (sM (sI (sI (sI S 35 0) 36 0) 37 (-1)) 6 (vp_updL (S.2.2.2 6) n 0)) 4 (upd (S.2.1 4) n 0) := ⟨_, rfl⟩
  have f00 : fr n S S := ⟨fun _ _ => rfl, fun _ _ _ => rfl, fun _ _ => ⟨rfl, rfl, rfl, rfl⟩⟩
  have f15 : fr n S S15 := by
    rw [e15]
    exact fr_4 (fr_6 (fr_I (fr_I (fr_I f00 (by omega) 0) (by omega) 0) (by omega) (-1)) 0) 0
  have s35 : S15.1 35 = nI 0 := by rw [e15]; rfl
  have s36 : S15.1 36 = nI 0 := by rw [e15]; rfl
  have s37 : S15.1 37 = -1 := by rw [e15]; rfl
  have s4 : S15.2.1 4 n = nI 0 := by rw [e15]; exact pk_us
  have s6 : S15.2.2.2 6 n = 0 := by rw [e15]; exact pk_uLs
  have hS15 : mR k b S15 := fr_R f15 hS
  have start3 : ∀ {Q}, fX3_look N T4 (fun r5 => ((¬ r5 = 33 → (fX3_either N T4 0 (fun r7 T8 => (∀ T9 : RS, T9 = sL T8 6 r7 → (fX3_readSort N T9 (fun r10 T11 => (∀ T12 : RS, T12 = sI T11 4 r10 → (fX3_either N T12 0 (fun r13 T14 => (∀ T15 : RS, T15 = sL T14 7 r13 → (fX3_readDigit N T15 (fun r16 T17 => (∀ T18 : RS, T18 = sI T17 5 r16 → (fX3_parse_90 N T18 Q)))))))))))))) ∧ (r5 = 33 → (∀ T23 : RS, T23 = sI T4 2 ((T4.1 2) + (1 : Int32)) → (∀ T24 : RS, T24 = sI T23 4 0 → (fX3_either N T24 0 (fun r25 T26 => (∀ T27 : RS, T27 = sL T26 6 r25 → (fX3_parse_90 N T27 Q)))))))))  → fX3_parse N T Q := fun h => nm_e (nm_e (nm_e (nm_r e4.symm h)))
  have start6 : ∀ {v1 v2 v3 Q}, (fX6_byteAt N S15 (fun r16 => ((¬ r16 = 33 → (fX6_any N S15 (fun r18 S19 => (vp_in (nI n) 20 ∧ (∀ S21 : RS, S21 = sM S19 5 (vp_updL (S19.2.2.2 5) n r18) → (fX6_byteAt N S21 (fun r22 => ((0 ≤ (S21.1 37) → (fX6_want_166 N S21 v1 v2 v3 (nI n) r22 Q)) ∧ (¬ 0 ≤ (S21.1 37) → ((r22 = 62 → (fX6_want_166 N S21 v1 v2 v3 (nI n) r22 Q)) ∧ (¬ r22 = 62 → ((r22 = 59 → (fX6_want_166 N S21 v1 v2 v3 (nI n) r22 Q)) ∧ (¬ r22 = 59 → (fX6_wrong N S21 (fun r67 S68 => (fX6_want_166 N S68 v1 v2 v3 (nI n) r22 Q)))))))))))))))) ∧ (r16 = 33 → (vp_in (nI n) 20 ∧ (∀ S70 : RS, S70 = sA S15 3 (upd (S15.2.1 3) n 0) → (∀ S71 : RS, S71 = sI S70 35 ((S70.1 35) + (1 : Int32)) → (fX6_any N S71 (fun r72 S73 => (vp_in (nI n) 20 ∧ (∀ S75 : RS, S75 = sM S73 5 (vp_updL (S73.2.2.2 5) n r72) → (fX6_want_275 N S75 v1 v2 v3 (nI n) Q)))))))))))) → wR N S v1 v2 v3 Q := by
    intro v1 v2 v3 Q h
    refine nm_e (nm_e (nm_e (nm_r (show _ = nI n from e13) ?_)))
    rw [en]
    exact ⟨hv, nm_e ⟨hv, nm_r e15.symm h⟩⟩
  by_cases c33 : tk b k 0 = 33
  · have h0k := tk_p (b := b) (k := k) (p := 0) (by omega)
    obtain ⟨T24, e24⟩ : ∃ t, t = sI (sI T4 2 (nI 1)) 4 0 := ⟨_, rfl⟩
    obtain ⟨S71, e71⟩ : ∃ s, s = sI (sA S15 3 (upd (S15.2.1 3) n 0)) 35 (nI 1) := ⟨_, rfl⟩
    have f71 : fr n S S71 := by rw [e71]; exact fr_I (fr_3 f15 0) (by omega) _
    obtain ⟨ok, v, q, hq, hpq, g3, g6⟩ := rdX (T := T24) (S := S71) (p := 1) (N := N) (k := k) (b := b) (by rw [e24]; exact hT4) (fr_R f71 hS) hN (by omega) (by rw [e24]; rfl) (by rw [e24]; exact t3) (by rw [e71]; rfl) (by rw [e71]; exact s36) (by rw [e71]; exact s37)
    have go3 : ∀ {Q}, fX3_either N T24 0 (fun r25 T26 => (∀ T27 : RS, T27 = sL T26 6 r25 → (fX3_parse_90 N T27 Q))) → fX3_parse N T Q := by
      intro Q h
      refine start3 (e_look' hT4 (by omega) t2 t3 ⟨fun c => absurd ((lok_eq (c := 33) hb (by omega) (by omega)).mpr c33) c, fun _ => ?_⟩)
      rw [t2, nI_1]
      exact nm_e (nm_r e24.symm h)
    have go6 : ∀ {v1 v2 v3 Q}, (fX6_any N S71 (fun r72 S73 => (vp_in (nI n) 20 ∧ (∀ S75 : RS, S75 = sM S73 5 (vp_updL (S73.2.2.2 5) n r72) → (fX6_want_275 N S75 v1 v2 v3 (nI n) Q))))) → wR N S v1 v2 v3 Q := by
      intro v1 v2 v3 Q h
      refine start6 (e_byteAt' hS15 (by omega) s35 ⟨fun c => absurd (by rw [c33]; rfl) c, fun _ => ⟨hv, nm_e ?_⟩⟩)
      rw [show (sA S15 3 (upd (S15.2.1 3) n 0)).1 35 = nI 0 from s35, nI_1]
      exact nm_r e71.symm h
    cases ok with
    | false =>
      refine ⟨false, 0, 0, 0, 0, q, hq, by omega, by omega, fun _ => rfl, fun Q hF => go3 (g3 _ ⟨fun c => (by cases c), fun _ v' q' => nm_e (p90X (show q < 2 ^ 31 by omega) rfl (hF.2 rfl _))⟩), fun v1 v2 v3 Q hF => go6 (g6 _ ⟨fun c => (by cases c), fun _ v' q' d' hq' => ⟨hv, nm_e (w275X (pos37 (show q < 2 ^ 31 by omega) rfl) (hF.2 rfl _ (fr_5 (fr_m f71 _ _ _) _) rfl))⟩⟩)⟩
    | true =>
      have hT27 : tR k b (sL (tS T24 (nI q) (-1)) 6 v) := by rw [e24]; exact hT4
      have f75 := fr_5 (fr_m f71 (nI q) (nI 0) (-1)) v
      by_cases cq : q = k
      · refine ⟨true, 0, 0, v, 0, 0, by omega, by omega, by omega, fun _ => rfl, fun Q hF => go3 (g3 _ ⟨fun _ => nm_e (p90 hT27 hq rfl rfl (fun _ => hF.1 rfl _ hT27.2.1 ?_ ?_ rfl ?_) (fun c => absurd c (by omega))), fun c => (by cases c)⟩), fun v1 v2 v3 Q hF => go6 (g6 _ ⟨fun _ => ⟨hv, nm_e (w275 (fr_R f75 hS) hq rfl rfl (fun _ => hF.1 rfl _ f75 rfl ?_ ?_ pk_uLs ?_) (fun c => absurd c (by omega)))⟩, fun c => (by cases c)⟩)⟩
        · rw [e24]; rfl
        · rw [e24]; exact t5
        · rw [e24]; exact t7
        · rw [e71]; exact pk_us
        · rw [e71]; exact s4
        · rw [e71]; exact s6
      · refine ⟨false, 0, 0, 0, 0, q, hq, by omega, by omega, fun _ => rfl, fun Q hF => go3 (g3 _ ⟨fun _ => nm_e (p90 hT27 hq rfl rfl (fun c => absurd c cq) (fun c => hF.2 rfl _)), fun c => (by cases c)⟩), fun v1 v2 v3 Q hF => go6 (g6 _ ⟨fun _ => ⟨hv, nm_e (w275 (fr_R f75 hS) hq rfl rfl (fun c => absurd c cq) (fun c => hF.2 rfl _ (fr_I f75 (by omega) _) rfl))⟩, fun c => (by cases c)⟩)⟩
  · obtain ⟨ok, v, q, hq, hpq, g3, g6⟩ := rdX (T := T4) (S := S15) (p := 0) (N := N) (k := k) (b := b) hT4 hS15 hN (by omega) t2 t3 s35 s36 s37
    have go3 : ∀ {Q}, (fX3_either N T4 0 (fun r7 T8 => (∀ T9 : RS, T9 = sL T8 6 r7 → (fX3_readSort N T9 (fun r10 T11 => (∀ T12 : RS, T12 = sI T11 4 r10 → (fX3_either N T12 0 (fun r13 T14 => (∀ T15 : RS, T15 = sL T14 7 r13 → (fX3_readDigit N T15 (fun r16 T17 => (∀ T18 : RS, T18 = sI T17 5 r16 → (fX3_parse_90 N T18 Q))))))))))))) → fX3_parse N T Q := fun h => start3 (e_look' hT4 (by omega) t2 t3 ⟨fun _ => h, fun c => absurd ((lok_eq (c := 33) hb (by omega) (by omega)).mp c) c33⟩)
    have go6 : ∀ {v1 v2 v3 Q}, (fX6_any N S15 (fun r18 S19 => (vp_in (nI n) 20 ∧ (∀ S21 : RS, S21 = sM S19 5 (vp_updL (S19.2.2.2 5) n r18) → (fX6_byteAt N S21 (fun r22 => ((0 ≤ (S21.1 37) → (fX6_want_166 N S21 v1 v2 v3 (nI n) r22 Q)) ∧ (¬ 0 ≤ (S21.1 37) → ((r22 = 62 → (fX6_want_166 N S21 v1 v2 v3 (nI n) r22 Q)) ∧ (¬ r22 = 62 → ((r22 = 59 → (fX6_want_166 N S21 v1 v2 v3 (nI n) r22 Q)) ∧ (¬ r22 = 59 → (fX6_wrong N S21 (fun r67 S68 => (fX6_want_166 N S68 v1 v2 v3 (nI n) r22 Q))))))))))))))) → wR N S v1 v2 v3 Q := fun h => start6 (e_byteAt' hS15 (by omega) s35 ⟨fun _ => h, fun c => absurd ((nIe (tk_lt hb 0) (by omega)).mp (show nI (tk b k 0) = nI 33 from c)) c33⟩)
    cases ok with
    | false =>
      refine ⟨false, 0, 0, 0, 0, q, hq, by omega, by omega, fun _ => rfl, fun Q hF => go3 (g3 _ ⟨fun c => (by cases c), fun _ v' q' => nm_e (e_lookX' (fne (by omega)) ⟨fun c => absurd c (by decide), fun _ => ⟨fun c => absurd c (by decide), fun _ => e_missX' (fne (by omega)) (tail3X hN (show q < 2 ^ 31 by omega) rfl (hF.2 rfl))⟩⟩)⟩), fun v1 v2 v3 Q hF => go6 (g6 _ ⟨fun c => (by cases c), fun _ v' q' d' hq' => ⟨hv, nm_e (e_byteAt' (fr_R (fr_5 (fr_m f15 _ _ _) _) hS) (by omega) rfl ⟨fun _ => w166X (pos37 (show q < 2 ^ 31 by omega) rfl) (hF.2 rfl _ (fr_5 (fr_m f15 _ _ _) _) rfl), fun c => absurd (pos37 (show q < 2 ^ 31 by omega) rfl) c⟩)⟩⟩)⟩
    | true =>
      obtain ⟨T9, e9⟩ : ∃ t, t = sL (tS T4 (nI q) (-1)) 6 v := ⟨_, rfl⟩
      obtain ⟨S21, e21⟩ : ∃ s, s = sM (mS S15 (nI q) (nI 0) (-1)) 5 (vp_updL (S15.2.2.2 5) n v) := ⟨_, rfl⟩
      have hT9 : tR k b T9 := by rw [e9]; exact hT4
      have u2 : T9.1 2 = nI q := by rw [e9]; rfl
      have u3 : T9.1 3 = -1 := by rw [e9]; rfl
      have f21 : fr n S S21 := by rw [e21]; exact fr_5 (fr_m f15 (nI q) (nI 0) (-1)) v
      have hS21 := fr_R f21 hS
      have w35 : S21.1 35 = nI q := by rw [e21]; rfl
      have w36 : S21.1 36 = nI 0 := by rw [e21]; rfl
      have w37 : S21.1 37 = -1 := by rw [e21]; rfl
      have w4 : S21.2.1 4 n = nI 0 := by rw [e21]; exact s4
      have w5 : S21.2.2.2 5 n = v := by rw [e21]; exact pk_uLs
      have ng3 : ∀ {Q}, (fX3_readSort N T9 (fun r10 T11 => (∀ T12 : RS, T12 = sI T11 4 r10 → (fX3_either N T12 0 (fun r13 T14 => (∀ T15 : RS, T15 = sL T14 7 r13 → (fX3_readDigit N T15 (fun r16 T17 => (∀ T18 : RS, T18 = sI T17 5 r16 → (fX3_parse_90 N T18 Q)))))))))) → fX3_parse N T Q := fun h => go3 (g3 _ ⟨fun _ => nm_r e9.symm h, fun c => (by cases c)⟩)
      have ng6 : ∀ {v1 v2 v3 Q}, ((nI (tk b k q) = 62 → (fX6_want_166 N S21 v1 v2 v3 (nI n) (nI (tk b k q)) Q)) ∧ (¬ nI (tk b k q) = 62 → ((nI (tk b k q) = 59 → (fX6_want_166 N S21 v1 v2 v3 (nI n) (nI (tk b k q)) Q)) ∧ (¬ nI (tk b k q) = 59 → (fX6_wrong N S21 (fun r67 S68 => (fX6_want_166 N S68 v1 v2 v3 (nI n) (nI (tk b k q)) Q))))))) → wR N S v1 v2 v3 Q := fun h => go6 (g6 _ ⟨fun _ => ⟨hv, nm_r e21.symm (e_byteAt' hS21 (by omega) w35 ⟨fun c => absurd c (neg37 w37), fun _ => h⟩)⟩, fun c => (by cases c)⟩)
      by_cases cs : tk b k q = 62 ∨ tk b k q = 59
      · obtain ⟨a, haN⟩ : ∃ a, (a = 1 ∧ tk b k q = 62) ∨ (a = 2 ∧ tk b k q = 59) := by
          rcases cs with c | c
          · exact ⟨1, Or.inl ⟨rfl, c⟩⟩
          · exact ⟨2, Or.inr ⟨rfl, c⟩⟩
        have ha2 : a ≤ 2 := by omega
        have ha1 : 1 ≤ a := by omega
        have hqk : q < k := tk_p (b := b) (k := k) (p := q) (by omega)
        obtain ⟨T12, e12⟩ : ∃ t, t = sI (sI T9 2 (nI (q + 1))) 4 (nI a) := ⟨_, rfl⟩
        obtain ⟨S60, e60⟩ : ∃ s, s = sI (sA S21 3 (upd (S21.2.1 3) n (nI a))) 35 (nI (q + 1)) := ⟨_, rfl⟩
        have f60 : fr n S S60 := by rw [e60]; exact fr_I (fr_3 f21 _) (by omega) _
        obtain ⟨ok2, r, q2, hq2, hpq2, g3', g6'⟩ := rdX (T := T12) (S := S60) (p := q + 1) (N := N) (k := k) (b := b) (by rw [e12]; exact hT9) (fr_R f60 hS) hN (by omega) (by rw [e12]; rfl) (by rw [e12]; exact u3) (by rw [e60]; rfl) (by rw [e60]; exact w36) (by rw [e60]; exact w37)
        have eT3 : sI T9 2 ((T9.1 2) + 1) = sI T9 2 (nI (q + 1)) := by rw [u2, nI_1]
        have ms3 : ∀ {Q}, (fX3_either N T12 0 (fun r13 T14 => (∀ T15 : RS, T15 = sL T14 7 r13 → (fX3_readDigit N T15 (fun r16 T17 => (∀ T18 : RS, T18 = sI T17 5 r16 → (fX3_parse_90 N T18 Q))))))) → fX3_parse N T Q := by
          intro Q h
          refine ng3 (e_look' hT9 hq u2 u3 ?_)
          rcases haN with ⟨rfl, c⟩ | ⟨rfl, c⟩
          · have e := (lok_eq (k := k) (p := q) (c := 62) hb (by omega) (by omega)).mpr c
            exact ⟨fun _ => nm_r eT3 ⟨fun c2 => absurd e c2, fun _ => nm_r e12.symm h⟩, fun c2 => absurd e c2⟩
          · have e := (lok_eq (k := k) (p := q) (c := 59) hb (by omega) (by omega)).mpr c
            have ne : ¬ lok b k q = 62 := fun c2 => by
              have := (lok_eq (k := k) (p := q) (c := 62) hb (by omega) (by omega)).mp c2
              omega
            exact ⟨fun c2 => absurd c2 ne, fun _ => ⟨fun _ => nm_r eT3 ⟨fun _ => nm_r e12.symm h, fun c2 => absurd c2 ne⟩, fun c2 => absurd e c2⟩⟩
        have ms6 : ∀ {v1 v2 v3 Q}, (fX6_any N S60 (fun r61 S62 => (vp_in (nI n) 20 ∧ (∀ S64 : RS, S64 = sM S62 6 (vp_updL (S62.2.2.2 6) n r61) → (fX6_want_213 N S64 v1 v2 v3 (nI n) Q))))) → wR N S v1 v2 v3 Q := by
          intro v1 v2 v3 Q h
          have h191 : fX6_want_191 N S21 v1 v2 v3 (nI n) (nI n) (nI a) Q := by
            unfold fX6_want_191
            rw [en]
            refine ⟨hv, nm_e (nm_r ?_ h)⟩
            rw [e60, show (sA S21 3 (upd (S21.2.1 3) n (nI a))).1 35 = nI q from w35, nI_1]
          refine ng6 ?_
          rcases haN with ⟨rfl, c⟩ | ⟨rfl, c⟩
          · rw [c]
            exact ⟨fun _ => ⟨fun c => absurd c (neg37 w37), fun _ => ⟨fun c => absurd rfl c, fun _ => h191⟩⟩, fun c => absurd rfl c⟩
          · rw [c]
            exact ⟨fun c => absurd c (by decide), fun _ => ⟨fun _ => ⟨fun c => absurd c (neg37 w37), fun _ => ⟨fun _ => h191, fun c => absurd c (by decide)⟩⟩, fun c => absurd rfl c⟩⟩
        cases ok2 with
        | false =>
          exact ⟨false, 0, 0, 0, 0, q2, hq2, by omega, by omega, fun _ => rfl, fun Q hF => ms3 (g3' _ ⟨fun c => (by cases c), fun _ v' q' => nm_e (tail2X (show q2 < 2 ^ 31 by omega) rfl (hF.2 rfl))⟩), fun v1 v2 v3 Q hF => ms6 (g6' _ ⟨fun c => (by cases c), fun _ v' q' d' hq' => ⟨hv, nm_e (w213X (pos37 (show q2 < 2 ^ 31 by omega) rfl) (hF.2 rfl _ (fr_6 (fr_m f60 _ _ _) _) rfl))⟩⟩)⟩
        | true =>
          obtain ⟨T15, e15'⟩ : ∃ t, t = sL (tS T12 (nI q2) (-1)) 7 r := ⟨_, rfl⟩
          obtain ⟨S64, e64⟩ : ∃ s, s = sM (mS S60 (nI q2) (nI 0) (-1)) 6 (vp_updL (S60.2.2.2 6) n r) := ⟨_, rfl⟩
          have hT15 : tR k b T15 := by rw [e15', e12]; exact hT9
          have y2 : T15.1 2 = nI q2 := by rw [e15']; rfl
          have y3 : T15.1 3 = -1 := by rw [e15']; rfl
          have y4 : T15.1 4 = nI a := by rw [e15', e12]; rfl
          have y6 : T15.2.2.1 6 = v := by rw [e15', e12, e9]; rfl
          have y7 : T15.2.2.1 7 = r := by rw [e15']; rfl
          have f64 : fr n S S64 := by rw [e64]; exact fr_6 (fr_m f60 (nI q2) (nI 0) (-1)) r
          have hS64 := fr_R f64 hS
          have z35 : S64.1 35 = nI q2 := by rw [e64]; rfl
          have z37 : S64.1 37 = -1 := by rw [e64]; rfl
          have z3 : S64.2.1 3 n = nI a := by rw [e64, e60]; exact pk_us
          have z5 : S64.2.2.2 5 n = v := by rw [e64, e60]; exact w5
          have z6 : S64.2.2.2 6 n = r := by rw [e64]; exact pk_uLs
          have dg3 : ∀ {Q}, fX3_readDigit N T15 (fun r16 T17 => (∀ T18 : RS, T18 = sI T17 5 r16 → (fX3_parse_90 N T18 Q))) → fX3_parse N T Q := fun h => ms3 (g3' _ ⟨fun _ => nm_r e15'.symm h, fun c => (by cases c)⟩)
          have dg6 : ∀ {v1 v2 v3 Q}, fX6_want_213 N S64 v1 v2 v3 (nI n) Q → wR N S v1 v2 v3 Q := fun h => ms6 (g6' _ ⟨fun _ => ⟨hv, nm_r e64.symm h⟩, fun c => (by cases c)⟩)
          have ht2 := tk_lt hb q2
          by_cases cd : 48 ≤ tk b k q2 ∧ tk b k q2 ≤ 51
          · have hq2k : q2 < k := tk_p (b := b) (k := k) (p := q2) (by omega)
            have el : lok b k q2 = nI (tk b k q2) := by
              unfold lok tk
              rw [if_pos hq2k, if_pos hq2k]
            have e48 : nI (tk b k q2) - 48 = nI (tk b k q2 - 48) := pk_sub (b := 48) cd.1
            have n48 : ¬ nI (tk b k q2) < nI 48 := nI_nlt cd.1 (by omega)
            have l51 : nI (tk b k q2) ≤ nI 51 := nI_le cd.2 (by omega)
            obtain ⟨T18, e18⟩ : ∃ t, t = sI (sI T15 2 (nI (q2 + 1))) 5 (nI (tk b k q2 - 48)) := ⟨_, rfl⟩
            obtain ⟨S50, e50⟩ : ∃ s, s = sI (sA S64 4 (upd (S64.2.1 4) n (nI (tk b k q2 - 48)))) 35 (nI (q2 + 1)) := ⟨_, rfl⟩
            have hT18 : tR k b T18 := by rw [e18]; exact hT15
            have f50 : fr n S S50 := by rw [e50]; exact fr_I (fr_4 f64 _) (by omega) _
            have fn3 : ∀ {Q}, fX3_parse_90 N T18 Q → fX3_parse N T Q := by
              intro Q h
              refine dg3 (e_look' hT15 hq2 y2 y3 ?_)
              rw [el, e48]
              refine ⟨fun c => absurd c n48, fun _ => ⟨fun _ => nm_e (nm_r ?_ h), fun c => absurd l51 c⟩⟩
              rw [e18, y2, nI_1]
            have fn6 : ∀ {v1 v2 v3 Q}, fX6_want_275 N S50 v1 v2 v3 (nI n) Q → wR N S v1 v2 v3 Q := by
              intro v1 v2 v3 Q h
              refine dg6 ⟨fun c => absurd c (neg37 z37), fun _ => e_byteAt' hS64 (by omega) z35 ⟨fun c => absurd c n48, fun _ => e_byteAt' hS64 (by omega) z35 ⟨fun _ => ⟨fun c => absurd c (neg37 z37), fun _ => e_byteAt' hS64 (by omega) z35 ⟨hv, ?_⟩⟩, fun c => absurd l51 c⟩⟩⟩
              rw [en, e48]
              refine nm_e (nm_r ?_ h)
              rw [e50, show (sA S64 4 (upd (S64.2.1 4) n (nI (tk b k q2 - 48)))).1 35 = nI q2 from z35, nI_1]
            by_cases cq : q2 + 1 = k
            · refine ⟨true, a, tk b k q2 - 48, v, r, 0, by omega, ha2, by omega, fun c => absurd c (by omega), fun Q hF => fn3 (p90 hT18 (q := q2 + 1) (by omega) (by rw [e18]; rfl) (by rw [e18]; exact y3) (fun _ => hF.1 rfl _ hT18.2.1 ?_ ?_ ?_ ?_) (fun c => absurd c (by omega))), fun v1 v2 v3 Q hF => fn6 (w275 (q := q2 + 1) (fr_R f50 hS) (by omega) (by rw [e50]; rfl) (by rw [e50]; exact z37) (fun _ => hF.1 rfl _ f50 ?_ ?_ ?_ ?_ ?_) (fun c => absurd c (by omega)))⟩
              · rw [e18]; exact y4
              · rw [e18]; rfl
              · rw [e18]; exact y6
              · rw [e18]; exact y7
              · rw [e50]; exact z37
              · rw [e50]; exact z3
              · rw [e50]; exact pk_us
              · rw [e50]; exact z5
              · rw [e50]; exact z6
            · exact ⟨false, 0, 0, 0, 0, q2 + 1, by omega, by omega, by omega, fun _ => rfl, fun Q hF => fn3 (p90 hT18 (q := q2 + 1) (by omega) (by rw [e18]; rfl) (by rw [e18]; exact y3) (fun c => absurd c cq) (fun _ => hF.2 rfl _)), fun v1 v2 v3 Q hF => fn6 (w275 (q := q2 + 1) (fr_R f50 hS) (by omega) (by rw [e50]; rfl) (by rw [e50]; exact z37) (fun c => absurd c cq) (fun _ => hF.2 rfl _ (fr_I f50 (by omega) _) rfl))⟩
          · refine ⟨false, 0, 0, 0, 0, q2, hq2, by omega, by omega, fun _ => rfl, fun Q hF => ?_, fun v1 v2 v3 Q hF => ?_⟩
            · have hm : fX3_readDigit_17 N T15 (fun r16 T17 => (∀ T18 : RS, T18 = sI T17 5 r16 → (fX3_parse_90 N T18 Q))) := e_miss' y3 y2 (nm_e (p90X (show q2 < 2 ^ 31 by omega) rfl (hF.2 rfl _)))
              refine dg3 (e_look' hT15 hq2 y2 y3 ⟨fun _ => hm, fun c1 => ⟨fun c2 => ?_, fun _ => hm⟩⟩)
              exfalso
              by_cases cl : q2 < k
              · have el : lok b k q2 = nI (tk b k q2) := by
                  unfold lok tk
                  rw [if_pos cl, if_pos cl]
                rw [el] at c1 c2
                have a1 : ¬ nI (tk b k q2) < nI 48 := c1
                have a2 : nI (tk b k q2) ≤ nI 51 := c2
                rw [nI_ltI (by omega) (by omega)] at a1
                rw [nI_leI (by omega) (by omega)] at a2
                omega
              · unfold lok at c1
                rw [if_neg cl] at c1
                exact c1 (by decide)
            · have hm : fX6_want_238 N S64 v1 v2 v3 (nI n) Q := e_wrong' z37 z35 (w244X (pos37 (show q2 < 2 ^ 31 by omega) rfl) (hF.2 rfl _ (fr_I f64 (by omega) _) rfl))
              refine dg6 ⟨fun c => absurd c (neg37 z37), fun _ => e_byteAt' hS64 (by omega) z35 ⟨fun _ => hm, fun c1 => e_byteAt' hS64 (by omega) z35 ⟨fun c2 => ?_, fun _ => hm⟩⟩⟩
              exfalso
              have a1 : ¬ nI (tk b k q2) < nI 48 := c1
              have a2 : nI (tk b k q2) ≤ nI 51 := c2
              rw [nI_ltI (by omega) (by omega)] at a1
              rw [nI_leI (by omega) (by omega)] at a2
              omega
      · have c62 : tk b k q ≠ 62 := fun c => cs (Or.inl c)
        have c59 : tk b k q ≠ 59 := fun c => cs (Or.inr c)
        refine ⟨false, 0, 0, 0, 0, q, hq, by omega, by omega, fun _ => rfl, fun Q hF => ng3 (e_look' hT9 hq u2 u3 ⟨fun c => absurd ((lok_eq (c := 62) hb (by omega) (by omega)).mp c) c62, fun _ => ⟨fun c => absurd ((lok_eq (c := 59) hb (by omega) (by omega)).mp c) c59, fun _ => e_miss' u3 u2 (tail3X hN (show q < 2 ^ 31 by omega) rfl (hF.2 rfl))⟩⟩), fun v1 v2 v3 Q hF => ng6 ⟨fun c => absurd ((nIe (tk_lt hb q) (by omega)).mp (show nI (tk b k q) = nI 62 from c)) c62, fun _ => ⟨fun c => absurd ((nIe (tk_lt hb q) (by omega)).mp (show nI (tk b k q) = nI 59 from c)) c59, fun _ => e_wrong' w37 w35 (w166X (pos37 (show q < 2 ^ 31 by omega) rfl) (hF.2 rfl _ (fr_I f21 (by omega) _) rfl))⟩⟩⟩
end WANT2
