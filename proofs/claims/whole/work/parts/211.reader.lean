section READER2
variable {N k : Nat} {b : Nat → Nat} {T S : RS}
/-- the loop behind the first: ands -/
theorem rd_all (hT : tR k b T) (hS : mR k b S) (hN : 100 ≤ N) {d : Nat} (hd : d ≤ 10) (h : rdr N k T S 2 d) : rdr N k T S 1 d := by
  have hk := hT.1
  have hb := hT.2.2.2
  have loop : ∀ (m p : Nat) (v : Int64) (i : Nat), k - p ≤ m → p ≤ k → i < p → ∃ (ok : Bool) (v' : Int64) (q : Nat), q ≤ k ∧ (ok = true → p ≤ q) ∧ (∀ dn n Q, 4 * (10 - d) + 1 ≤ dn → m + 1 < n → o3 T ok v' q Q → fX3_both_9 (gX3 N dn 2) N (nI d) (fun x T => Q x T) Q n v (nI i) (tS T (nI p) (-1))) ∧ (∀ dn n Q, 3 * (10 - d) + 1 ≤ dn → m + 1 < n → o6 S d ok v' q Q → fX6_all_5 (gX6 N dn 2) N (fun x S => Q x S) Q n v (mS S (nI p) (nI d) (-1))) := by
    intro m
    induction m with
    | zero =>
      intro p v i hm hp hi
      have hz : tk b k p = 0 := if_neg (by omega)
      refine ⟨true, v, p, hp, fun _ => Nat.le_refl _, fun dn n Q _ hn ho => ?_, fun dn n Q _ hn ho => ?_⟩
      · obtain ⟨n, rfl⟩ : ∃ n', n = n' + 1 := ⟨n - 1, by omega⟩
        refine ⟨fun c => ho.1 rfl, fun _ => e_look hT hp ⟨fun _ => ho.1 rfl, fun c => ?_⟩⟩
        have := (lok_eq (k := k) (p := p) (c := 38) hb (by omega) (by omega)).mp c
        omega
      · obtain ⟨n, rfl⟩ : ∃ n', n = n' + 1 := ⟨n - 1, by omega⟩
        refine ⟨fun c => absurd (show (0 : Int32) ≤ -1 from c) (by decide), fun _ => e_byteAt hS (by omega) ⟨fun _ => ho.1 rfl, fun c => ?_⟩⟩
        have := (nIe (tk_lt hb p) (by omega)).mp (show nI (tk b k p) = nI 38 from c)
        omega
    | succ m ih =>
      intro p v i hm hp hi
      by_cases h38 : tk b k p = 38
      · have hpk := tk_p (b := b) (k := k) (p := p) (by omega)
        obtain ⟨ok, r, q, hq, hpq, g3, g6⟩ := h (p + 1) (by omega)
        cases ok with
        | false =>
          refine ⟨false, 0, q, hq, fun c => (by cases c), fun dn n Q hdn hn ho => ?_, fun dn n Q hdn hn ho => ?_⟩
          · obtain ⟨n, rfl⟩ : ∃ n', n = n' + 1 := ⟨n - 1, by omega⟩
            refine ⟨fun c => absurd (show nI 80 ≤ nI i from c) (nI_ge (by omega) (by omega)), fun _ => e_look hT hp ⟨fun c => absurd ((lok_eq hb (by omega) (by omega)).mpr h38) c, fun _ => nm_e ?_⟩⟩
            rw [tS_p, show (tS T (nI p) (-1)).1 2 = nI p from rfl, nI_1]
            refine g3 dn _ hdn ⟨fun c => (by cases c), fun _ v' q' => nm_e (nm_e ?_)⟩
            obtain ⟨n, rfl⟩ : ∃ n', n = n' + 1 := ⟨n - 1, by omega⟩
            exact ⟨fun c => ho.2 rfl _ _, fun _ => e_lookX (fne (by omega)) ⟨fun _ => ho.2 rfl _ _, fun c => absurd c (by decide)⟩⟩
          · obtain ⟨n, rfl⟩ : ∃ n', n = n' + 1 := ⟨n - 1, by omega⟩
            refine ⟨fun c => absurd (show (0 : Int32) ≤ -1 from c) (by decide), fun _ => e_byteAt hS (by omega) ⟨fun c => absurd (by rw [h38]; rfl) c, fun _ => nm_e ?_⟩⟩
            rw [mS_p, show (mS S (nI p) (nI d) (-1)).1 35 = nI p from rfl, nI_1]
            refine g6 dn _ hdn ⟨fun c => (by cases c), fun _ v' q' d' hq' => nm_e ?_⟩
            obtain ⟨n, rfl⟩ : ∃ n', n = n' + 1 := ⟨n - 1, by omega⟩
            exact ⟨fun _ => ho.2 rfl _ _ _ hq', fun c => absurd (nI_pos' (by omega)) c⟩
        | true =>
          have hq1 := hpq rfl
          obtain ⟨ok2, v2, q2, hq2, hpq2, l3, l6⟩ := ih q (v &&& r) (i + 1) (by omega) hq (by omega)
          refine ⟨ok2, v2, q2, hq2, fun c => (by have := hpq2 c; omega), fun dn n Q hdn hn ho => ?_, fun dn n Q hdn hn ho => ?_⟩
          · obtain ⟨n, rfl⟩ : ∃ n', n = n' + 1 := ⟨n - 1, by omega⟩
            refine ⟨fun c => absurd (show nI 80 ≤ nI i from c) (nI_ge (by omega) (by omega)), fun _ => e_look hT hp ⟨fun c => absurd ((lok_eq hb (by omega) (by omega)).mpr h38) c, fun _ => nm_e ?_⟩⟩
            rw [tS_p, show (tS T (nI p) (-1)).1 2 = nI p from rfl, nI_1]
            exact g3 dn _ hdn ⟨fun _ => nm_e (nm_r (nI_1 i) (l3 dn n Q hdn (by omega) ho)), fun c => by cases c⟩
          · obtain ⟨n, rfl⟩ : ∃ n', n = n' + 1 := ⟨n - 1, by omega⟩
            refine ⟨fun c => absurd (show (0 : Int32) ≤ -1 from c) (by decide), fun _ => e_byteAt hS (by omega) ⟨fun c => absurd (by rw [h38]; rfl) c, fun _ => nm_e ?_⟩⟩
            rw [mS_p, show (mS S (nI p) (nI d) (-1)).1 35 = nI p from rfl, nI_1]
            exact g6 dn _ hdn ⟨fun _ => nm_e (l6 dn n Q hdn (by omega) ho), fun c => by cases c⟩
      · refine ⟨true, v, p, hp, fun _ => Nat.le_refl _, fun dn n Q _ hn ho => ?_, fun dn n Q _ hn ho => ?_⟩
        · obtain ⟨n, rfl⟩ : ∃ n', n = n' + 1 := ⟨n - 1, by omega⟩
          refine ⟨fun c => ho.1 rfl, fun _ => e_look hT hp ⟨fun _ => ho.1 rfl, fun c => ?_⟩⟩
          exact absurd ((lok_eq (k := k) (p := p) (c := 38) hb (by omega) (by omega)).mp c) h38
        · obtain ⟨n, rfl⟩ : ∃ n', n = n' + 1 := ⟨n - 1, by omega⟩
          refine ⟨fun c => absurd (show (0 : Int32) ≤ -1 from c) (by decide), fun _ => e_byteAt hS (by omega) ⟨fun _ => ho.1 rfl, fun c => ?_⟩⟩
          exact absurd ((nIe (tk_lt hb p) (by omega)).mp (show nI (tk b k p) = nI 38 from c)) h38
  intro p hp
  obtain ⟨ok, r, q, hq, hpq, g3, g6⟩ := h p hp
  cases ok with
  | false =>
    refine ⟨false, 0, q, hq, fun c => (by cases c), fun dn Q hdn ho => ?_, fun dn Q hdn ho => ?_⟩
    · obtain ⟨dn, rfl⟩ : ∃ n', dn = n' + 1 := ⟨dn - 1, by omega⟩
      refine g3 dn _ (by omega) ⟨fun c => (by cases c), fun _ v' q' => ?_⟩
      obtain ⟨n, rfl⟩ : ∃ n', N = n' + 1 := ⟨N - 1, by omega⟩
      exact ⟨fun c => ho.2 rfl _ _, fun _ => e_lookX (fne (by omega)) ⟨fun _ => ho.2 rfl _ _, fun c => absurd c (by decide)⟩⟩
    · obtain ⟨dn, rfl⟩ : ∃ n', dn = n' + 1 := ⟨dn - 1, by omega⟩
      refine g6 dn _ (by omega) ⟨fun c => (by cases c), fun _ v' q' d' hq' => ?_⟩
      obtain ⟨n, rfl⟩ : ∃ n', N = n' + 1 := ⟨N - 1, by omega⟩
      exact ⟨fun _ => ho.2 rfl _ _ _ hq', fun c => absurd (nI_pos' (by omega)) c⟩
  | true =>
    have hq1 := hpq rfl
    obtain ⟨ok2, v2, q2, hq2, hpq2, l3, l6⟩ := loop (k - q) q r 0 (Nat.le_refl _) hq (by omega)
    refine ⟨ok2, v2, q2, hq2, fun c => (by have := hpq2 c; omega), fun dn Q hdn ho => ?_, fun dn Q hdn ho => ?_⟩
    · obtain ⟨dn, rfl⟩ : ∃ n', dn = n' + 1 := ⟨dn - 1, by omega⟩
      exact g3 dn _ (by omega) ⟨fun _ => l3 dn N Q (by omega) (by omega) ho, fun c => by cases c⟩
    · obtain ⟨dn, rfl⟩ : ∃ n', dn = n' + 1 := ⟨dn - 1, by omega⟩
      exact g6 dn _ (by omega) ⟨fun _ => l6 dn N Q (by omega) (by omega) ho, fun c => by cases c⟩
def lf (i : Nat) : Nat → Int64
  | 0 => 0
  | j + 1 => if j.testBit i then lf i j ||| ((1 : Int64) <<< ((nI j).toInt64 &&& 63)) else lf i j
theorem lor_0 (x : Int64) : x ||| 0 = x := l_ext (fun i _ => by rw [tb_or, tb_0, Bool.or_false])
theorem e_letter {i : Nat} {Q : Int64 → Prop} (hN : 100 ≤ N) (hi : i < 32) (h : Q (lf i 64)) : fX6_letter N (nI i) Q := by
  have key := loop_i (σ := Int64) (fun w j x => fX6_letter_4 N (nI i) (fun x7 => Q x7) Q w x (nI j)) (fun j x => x = lf i j) 64 (fun w s hs => lp_end (m := 64) (n := 64) rfl (by rw [hs]; exact h)) (fun w j s hj hs ih => lp_in (m := 64) (n := 64) rfl (by omega) hj ?_) N 0 0 (by omega) (by omega) rfl
  · exact key
  · rw [sshr_bit hi, bt_nI hi]
    refine sel1 (fun c => ?_) (fun c => ?_)
    · refine nm_e (nm_r (nI_1 j) (ih _ ?_))
      show _ = if j.testBit i then _ else _
      rw [if_pos c, hs]
    · refine nm_r (lor_0 s) (nm_r (nI_1 j) (ih _ ?_))
      show _ = if j.testBit i then _ else _
      rw [if_neg (by rw [c]; decide), hs]
theorem lf_97 : lf 3 64 = -71777214294589696 := by decide +kernel
theorem lf_98 : lf 4 64 = -281470681808896 := by decide +kernel
theorem lf_99 : lf 5 64 = -4294967296 := by decide +kernel
theorem lf_120 : lf 0 64 = -6148914691236517206 := by decide +kernel
theorem lf_121 : lf 1 64 = -3689348814741910324 := by decide +kernel
theorem lf_122 : lf 2 64 = -1085102592571150096 := by decide +kernel
theorem pick_40 {p : Nat} {A B48 B49 B97 B98 B99 B120 B121 B122 B126 D : Prop} (hb : ∀ j, j < k → b j < 256) (ht : tk b k p = 40) (hA : A) : (lok b k p = 40 → A) ∧ (lok b k p = 48 → B48) ∧ (lok b k p = 49 → B49) ∧ (lok b k p = 97 → B97) ∧ (lok b k p = 98 → B98) ∧ (lok b k p = 99 → B99) ∧ (lok b k p = 120 → B120) ∧ (lok b k p = 121 → B121) ∧ (lok b k p = 122 → B122) ∧ (lok b k p = 126 → B126) ∧ ((¬ lok b k p = 40 ∧ ¬ lok b k p = 48 ∧ ¬ lok b k p = 49 ∧ ¬ lok b k p = 97 ∧ ¬ lok b k p = 98 ∧ ¬ lok b k p = 99 ∧ ¬ lok b k p = 120 ∧ ¬ lok b k p = 121 ∧ ¬ lok b k p = 122 ∧ ¬ lok b k p = 126) → D) :=
  ⟨fun _ => hA, fun e => absurd ((lok_eq (c := 48) hb (by omega) (by omega)).mp e) (by omega), fun e => absurd ((lok_eq (c := 49) hb (by omega) (by omega)).mp e) (by omega), fun e => absurd ((lok_eq (c := 97) hb (by omega) (by omega)).mp e) (by omega), fun e => absurd ((lok_eq (c := 98) hb (by omega) (by omega)).mp e) (by omega), fun e => absurd ((lok_eq (c := 99) hb (by omega) (by omega)).mp e) (by omega), fun e => absurd ((lok_eq (c := 120) hb (by omega) (by omega)).mp e) (by omega), fun e => absurd ((lok_eq (c := 121) hb (by omega) (by omega)).mp e) (by omega), fun e => absurd ((lok_eq (c := 122) hb (by omega) (by omega)).mp e) (by omega), fun e => absurd ((lok_eq (c := 126) hb (by omega) (by omega)).mp e) (by omega), fun c => absurd ((lok_eq (c := 40) hb (by omega) (by omega)).mpr ht) c.1⟩
theorem pick_48 {p : Nat} {A B40 B49 B97 B98 B99 B120 B121 B122 B126 D : Prop} (hb : ∀ j, j < k → b j < 256) (ht : tk b k p = 48) (hA : A) : (lok b k p = 40 → B40) ∧ (lok b k p = 48 → A) ∧ (lok b k p = 49 → B49) ∧ (lok b k p = 97 → B97) ∧ (lok b k p = 98 → B98) ∧ (lok b k p = 99 → B99) ∧ (lok b k p = 120 → B120) ∧ (lok b k p = 121 → B121) ∧ (lok b k p = 122 → B122) ∧ (lok b k p = 126 → B126) ∧ ((¬ lok b k p = 40 ∧ ¬ lok b k p = 48 ∧ ¬ lok b k p = 49 ∧ ¬ lok b k p = 97 ∧ ¬ lok b k p = 98 ∧ ¬ lok b k p = 99 ∧ ¬ lok b k p = 120 ∧ ¬ lok b k p = 121 ∧ ¬ lok b k p = 122 ∧ ¬ lok b k p = 126) → D) :=
  ⟨fun e => absurd ((lok_eq (c := 40) hb (by omega) (by omega)).mp e) (by omega), fun _ => hA, fun e => absurd ((lok_eq (c := 49) hb (by omega) (by omega)).mp e) (by omega), fun e => absurd ((lok_eq (c := 97) hb (by omega) (by omega)).mp e) (by omega), fun e => absurd ((lok_eq (c := 98) hb (by omega) (by omega)).mp e) (by omega), fun e => absurd ((lok_eq (c := 99) hb (by omega) (by omega)).mp e) (by omega), fun e => absurd ((lok_eq (c := 120) hb (by omega) (by omega)).mp e) (by omega), fun e => absurd ((lok_eq (c := 121) hb (by omega) (by omega)).mp e) (by omega), fun e => absurd ((lok_eq (c := 122) hb (by omega) (by omega)).mp e) (by omega), fun e => absurd ((lok_eq (c := 126) hb (by omega) (by omega)).mp e) (by omega), fun c => absurd ((lok_eq (c := 48) hb (by omega) (by omega)).mpr ht) c.2.1⟩
theorem pick_49 {p : Nat} {A B40 B48 B97 B98 B99 B120 B121 B122 B126 D : Prop} (hb : ∀ j, j < k → b j < 256) (ht : tk b k p = 49) (hA : A) : (lok b k p = 40 → B40) ∧ (lok b k p = 48 → B48) ∧ (lok b k p = 49 → A) ∧ (lok b k p = 97 → B97) ∧ (lok b k p = 98 → B98) ∧ (lok b k p = 99 → B99) ∧ (lok b k p = 120 → B120) ∧ (lok b k p = 121 → B121) ∧ (lok b k p = 122 → B122) ∧ (lok b k p = 126 → B126) ∧ ((¬ lok b k p = 40 ∧ ¬ lok b k p = 48 ∧ ¬ lok b k p = 49 ∧ ¬ lok b k p = 97 ∧ ¬ lok b k p = 98 ∧ ¬ lok b k p = 99 ∧ ¬ lok b k p = 120 ∧ ¬ lok b k p = 121 ∧ ¬ lok b k p = 122 ∧ ¬ lok b k p = 126) → D) :=
  ⟨fun e => absurd ((lok_eq (c := 40) hb (by omega) (by omega)).mp e) (by omega), fun e => absurd ((lok_eq (c := 48) hb (by omega) (by omega)).mp e) (by omega), fun _ => hA, fun e => absurd ((lok_eq (c := 97) hb (by omega) (by omega)).mp e) (by omega), fun e => absurd ((lok_eq (c := 98) hb (by omega) (by omega)).mp e) (by omega), fun e => absurd ((lok_eq (c := 99) hb (by omega) (by omega)).mp e) (by omega), fun e => absurd ((lok_eq (c := 120) hb (by omega) (by omega)).mp e) (by omega), fun e => absurd ((lok_eq (c := 121) hb (by omega) (by omega)).mp e) (by omega), fun e => absurd ((lok_eq (c := 122) hb (by omega) (by omega)).mp e) (by omega), fun e => absurd ((lok_eq (c := 126) hb (by omega) (by omega)).mp e) (by omega), fun c => absurd ((lok_eq (c := 49) hb (by omega) (by omega)).mpr ht) c.2.2.1⟩
theorem pick_97 {p : Nat} {A B40 B48 B49 B98 B99 B120 B121 B122 B126 D : Prop} (hb : ∀ j, j < k → b j < 256) (ht : tk b k p = 97) (hA : A) : (lok b k p = 40 → B40) ∧ (lok b k p = 48 → B48) ∧ (lok b k p = 49 → B49) ∧ (lok b k p = 97 → A) ∧ (lok b k p = 98 → B98) ∧ (lok b k p = 99 → B99) ∧ (lok b k p = 120 → B120) ∧ (lok b k p = 121 → B121) ∧ (lok b k p = 122 → B122) ∧ (lok b k p = 126 → B126) ∧ ((¬ lok b k p = 40 ∧ ¬ lok b k p = 48 ∧ ¬ lok b k p = 49 ∧ ¬ lok b k p = 97 ∧ ¬ lok b k p = 98 ∧ ¬ lok b k p = 99 ∧ ¬ lok b k p = 120 ∧ ¬ lok b k p = 121 ∧ ¬ lok b k p = 122 ∧ ¬ lok b k p = 126) → D) :=
  ⟨fun e => absurd ((lok_eq (c := 40) hb (by omega) (by omega)).mp e) (by omega), fun e => absurd ((lok_eq (c := 48) hb (by omega) (by omega)).mp e) (by omega), fun e => absurd ((lok_eq (c := 49) hb (by omega) (by omega)).mp e) (by omega), fun _ => hA, fun e => absurd ((lok_eq (c := 98) hb (by omega) (by omega)).mp e) (by omega), fun e => absurd ((lok_eq (c := 99) hb (by omega) (by omega)).mp e) (by omega), fun e => absurd ((lok_eq (c := 120) hb (by omega) (by omega)).mp e) (by omega), fun e => absurd ((lok_eq (c := 121) hb (by omega) (by omega)).mp e) (by omega), fun e => absurd ((lok_eq (c := 122) hb (by omega) (by omega)).mp e) (by omega), fun e => absurd ((lok_eq (c := 126) hb (by omega) (by omega)).mp e) (by omega), fun c => absurd ((lok_eq (c := 97) hb (by omega) (by omega)).mpr ht) c.2.2.2.1⟩
theorem pick_98 {p : Nat} {A B40 B48 B49 B97 B99 B120 B121 B122 B126 D : Prop} (hb : ∀ j, j < k → b j < 256) (ht : tk b k p = 98) (hA : A) : (lok b k p = 40 → B40) ∧ (lok b k p = 48 → B48) ∧ (lok b k p = 49 → B49) ∧ (lok b k p = 97 → B97) ∧ (lok b k p = 98 → A) ∧ (lok b k p = 99 → B99) ∧ (lok b k p = 120 → B120) ∧ (lok b k p = 121 → B121) ∧ (lok b k p = 122 → B122) ∧ (lok b k p = 126 → B126) ∧ ((¬ lok b k p = 40 ∧ ¬ lok b k p = 48 ∧ ¬ lok b k p = 49 ∧ ¬ lok b k p = 97 ∧ ¬ lok b k p = 98 ∧ ¬ lok b k p = 99 ∧ ¬ lok b k p = 120 ∧ ¬ lok b k p = 121 ∧ ¬ lok b k p = 122 ∧ ¬ lok b k p = 126) → D) :=
  ⟨fun e => absurd ((lok_eq (c := 40) hb (by omega) (by omega)).mp e) (by omega), fun e => absurd ((lok_eq (c := 48) hb (by omega) (by omega)).mp e) (by omega), fun e => absurd ((lok_eq (c := 49) hb (by omega) (by omega)).mp e) (by omega), fun e => absurd ((lok_eq (c := 97) hb (by omega) (by omega)).mp e) (by omega), fun _ => hA, fun e => absurd ((lok_eq (c := 99) hb (by omega) (by omega)).mp e) (by omega), fun e => absurd ((lok_eq (c := 120) hb (by omega) (by omega)).mp e) (by omega), fun e => absurd ((lok_eq (c := 121) hb (by omega) (by omega)).mp e) (by omega), fun e => absurd ((lok_eq (c := 122) hb (by omega) (by omega)).mp e) (by omega), fun e => absurd ((lok_eq (c := 126) hb (by omega) (by omega)).mp e) (by omega), fun c => absurd ((lok_eq (c := 98) hb (by omega) (by omega)).mpr ht) c.2.2.2.2.1⟩
theorem pick_99 {p : Nat} {A B40 B48 B49 B97 B98 B120 B121 B122 B126 D : Prop} (hb : ∀ j, j < k → b j < 256) (ht : tk b k p = 99) (hA : A) : (lok b k p = 40 → B40) ∧ (lok b k p = 48 → B48) ∧ (lok b k p = 49 → B49) ∧ (lok b k p = 97 → B97) ∧ (lok b k p = 98 → B98) ∧ (lok b k p = 99 → A) ∧ (lok b k p = 120 → B120) ∧ (lok b k p = 121 → B121) ∧ (lok b k p = 122 → B122) ∧ (lok b k p = 126 → B126) ∧ ((¬ lok b k p = 40 ∧ ¬ lok b k p = 48 ∧ ¬ lok b k p = 49 ∧ ¬ lok b k p = 97 ∧ ¬ lok b k p = 98 ∧ ¬ lok b k p = 99 ∧ ¬ lok b k p = 120 ∧ ¬ lok b k p = 121 ∧ ¬ lok b k p = 122 ∧ ¬ lok b k p = 126) → D) :=
  ⟨fun e => absurd ((lok_eq (c := 40) hb (by omega) (by omega)).mp e) (by omega), fun e => absurd ((lok_eq (c := 48) hb (by omega) (by omega)).mp e) (by omega), fun e => absurd ((lok_eq (c := 49) hb (by omega) (by omega)).mp e) (by omega), fun e => absurd ((lok_eq (c := 97) hb (by omega) (by omega)).mp e) (by omega), fun e => absurd ((lok_eq (c := 98) hb (by omega) (by omega)).mp e) (by omega), fun _ => hA, fun e => absurd ((lok_eq (c := 120) hb (by omega) (by omega)).mp e) (by omega), fun e => absurd ((lok_eq (c := 121) hb (by omega) (by omega)).mp e) (by omega), fun e => absurd ((lok_eq (c := 122) hb (by omega) (by omega)).mp e) (by omega), fun e => absurd ((lok_eq (c := 126) hb (by omega) (by omega)).mp e) (by omega), fun c => absurd ((lok_eq (c := 99) hb (by omega) (by omega)).mpr ht) c.2.2.2.2.2.1⟩
theorem pick_120 {p : Nat} {A B40 B48 B49 B97 B98 B99 B121 B122 B126 D : Prop} (hb : ∀ j, j < k → b j < 256) (ht : tk b k p = 120) (hA : A) : (lok b k p = 40 → B40) ∧ (lok b k p = 48 → B48) ∧ (lok b k p = 49 → B49) ∧ (lok b k p = 97 → B97) ∧ (lok b k p = 98 → B98) ∧ (lok b k p = 99 → B99) ∧ (lok b k p = 120 → A) ∧ (lok b k p = 121 → B121) ∧ (lok b k p = 122 → B122) ∧ (lok b k p = 126 → B126) ∧ ((¬ lok b k p = 40 ∧ ¬ lok b k p = 48 ∧ ¬ lok b k p = 49 ∧ ¬ lok b k p = 97 ∧ ¬ lok b k p = 98 ∧ ¬ lok b k p = 99 ∧ ¬ lok b k p = 120 ∧ ¬ lok b k p = 121 ∧ ¬ lok b k p = 122 ∧ ¬ lok b k p = 126) → D) :=
  ⟨fun e => absurd ((lok_eq (c := 40) hb (by omega) (by omega)).mp e) (by omega), fun e => absurd ((lok_eq (c := 48) hb (by omega) (by omega)).mp e) (by omega), fun e => absurd ((lok_eq (c := 49) hb (by omega) (by omega)).mp e) (by omega), fun e => absurd ((lok_eq (c := 97) hb (by omega) (by omega)).mp e) (by omega), fun e => absurd ((lok_eq (c := 98) hb (by omega) (by omega)).mp e) (by omega), fun e => absurd ((lok_eq (c := 99) hb (by omega) (by omega)).mp e) (by omega), fun _ => hA, fun e => absurd ((lok_eq (c := 121) hb (by omega) (by omega)).mp e) (by omega), fun e => absurd ((lok_eq (c := 122) hb (by omega) (by omega)).mp e) (by omega), fun e => absurd ((lok_eq (c := 126) hb (by omega) (by omega)).mp e) (by omega), fun c => absurd ((lok_eq (c := 120) hb (by omega) (by omega)).mpr ht) c.2.2.2.2.2.2.1⟩
theorem pick_121 {p : Nat} {A B40 B48 B49 B97 B98 B99 B120 B122 B126 D : Prop} (hb : ∀ j, j < k → b j < 256) (ht : tk b k p = 121) (hA : A) : (lok b k p = 40 → B40) ∧ (lok b k p = 48 → B48) ∧ (lok b k p = 49 → B49) ∧ (lok b k p = 97 → B97) ∧ (lok b k p = 98 → B98) ∧ (lok b k p = 99 → B99) ∧ (lok b k p = 120 → B120) ∧ (lok b k p = 121 → A) ∧ (lok b k p = 122 → B122) ∧ (lok b k p = 126 → B126) ∧ ((¬ lok b k p = 40 ∧ ¬ lok b k p = 48 ∧ ¬ lok b k p = 49 ∧ ¬ lok b k p = 97 ∧ ¬ lok b k p = 98 ∧ ¬ lok b k p = 99 ∧ ¬ lok b k p = 120 ∧ ¬ lok b k p = 121 ∧ ¬ lok b k p = 122 ∧ ¬ lok b k p = 126) → D) :=
  ⟨fun e => absurd ((lok_eq (c := 40) hb (by omega) (by omega)).mp e) (by omega), fun e => absurd ((lok_eq (c := 48) hb (by omega) (by omega)).mp e) (by omega), fun e => absurd ((lok_eq (c := 49) hb (by omega) (by omega)).mp e) (by omega), fun e => absurd ((lok_eq (c := 97) hb (by omega) (by omega)).mp e) (by omega), fun e => absurd ((lok_eq (c := 98) hb (by omega) (by omega)).mp e) (by omega), fun e => absurd ((lok_eq (c := 99) hb (by omega) (by omega)).mp e) (by omega), fun e => absurd ((lok_eq (c := 120) hb (by omega) (by omega)).mp e) (by omega), fun _ => hA, fun e => absurd ((lok_eq (c := 122) hb (by omega) (by omega)).mp e) (by omega), fun e => absurd ((lok_eq (c := 126) hb (by omega) (by omega)).mp e) (by omega), fun c => absurd ((lok_eq (c := 121) hb (by omega) (by omega)).mpr ht) c.2.2.2.2.2.2.2.1⟩
theorem pick_122 {p : Nat} {A B40 B48 B49 B97 B98 B99 B120 B121 B126 D : Prop} (hb : ∀ j, j < k → b j < 256) (ht : tk b k p = 122) (hA : A) : (lok b k p = 40 → B40) ∧ (lok b k p = 48 → B48) ∧ (lok b k p = 49 → B49) ∧ (lok b k p = 97 → B97) ∧ (lok b k p = 98 → B98) ∧ (lok b k p = 99 → B99) ∧ (lok b k p = 120 → B120) ∧ (lok b k p = 121 → B121) ∧ (lok b k p = 122 → A) ∧ (lok b k p = 126 → B126) ∧ ((¬ lok b k p = 40 ∧ ¬ lok b k p = 48 ∧ ¬ lok b k p = 49 ∧ ¬ lok b k p = 97 ∧ ¬ lok b k p = 98 ∧ ¬ lok b k p = 99 ∧ ¬ lok b k p = 120 ∧ ¬ lok b k p = 121 ∧ ¬ lok b k p = 122 ∧ ¬ lok b k p = 126) → D) :=
  ⟨fun e => absurd ((lok_eq (c := 40) hb (by omega) (by omega)).mp e) (by omega), fun e => absurd ((lok_eq (c := 48) hb (by omega) (by omega)).mp e) (by omega), fun e => absurd ((lok_eq (c := 49) hb (by omega) (by omega)).mp e) (by omega), fun e => absurd ((lok_eq (c := 97) hb (by omega) (by omega)).mp e) (by omega), fun e => absurd ((lok_eq (c := 98) hb (by omega) (by omega)).mp e) (by omega), fun e => absurd ((lok_eq (c := 99) hb (by omega) (by omega)).mp e) (by omega), fun e => absurd ((lok_eq (c := 120) hb (by omega) (by omega)).mp e) (by omega), fun e => absurd ((lok_eq (c := 121) hb (by omega) (by omega)).mp e) (by omega), fun _ => hA, fun e => absurd ((lok_eq (c := 126) hb (by omega) (by omega)).mp e) (by omega), fun c => absurd ((lok_eq (c := 122) hb (by omega) (by omega)).mpr ht) c.2.2.2.2.2.2.2.2.1⟩
theorem pick_126 {p : Nat} {A B40 B48 B49 B97 B98 B99 B120 B121 B122 D : Prop} (hb : ∀ j, j < k → b j < 256) (ht : tk b k p = 126) (hA : A) : (lok b k p = 40 → B40) ∧ (lok b k p = 48 → B48) ∧ (lok b k p = 49 → B49) ∧ (lok b k p = 97 → B97) ∧ (lok b k p = 98 → B98) ∧ (lok b k p = 99 → B99) ∧ (lok b k p = 120 → B120) ∧ (lok b k p = 121 → B121) ∧ (lok b k p = 122 → B122) ∧ (lok b k p = 126 → A) ∧ ((¬ lok b k p = 40 ∧ ¬ lok b k p = 48 ∧ ¬ lok b k p = 49 ∧ ¬ lok b k p = 97 ∧ ¬ lok b k p = 98 ∧ ¬ lok b k p = 99 ∧ ¬ lok b k p = 120 ∧ ¬ lok b k p = 121 ∧ ¬ lok b k p = 122 ∧ ¬ lok b k p = 126) → D) :=
  ⟨fun e => absurd ((lok_eq (c := 40) hb (by omega) (by omega)).mp e) (by omega), fun e => absurd ((lok_eq (c := 48) hb (by omega) (by omega)).mp e) (by omega), fun e => absurd ((lok_eq (c := 49) hb (by omega) (by omega)).mp e) (by omega), fun e => absurd ((lok_eq (c := 97) hb (by omega) (by omega)).mp e) (by omega), fun e => absurd ((lok_eq (c := 98) hb (by omega) (by omega)).mp e) (by omega), fun e => absurd ((lok_eq (c := 99) hb (by omega) (by omega)).mp e) (by omega), fun e => absurd ((lok_eq (c := 120) hb (by omega) (by omega)).mp e) (by omega), fun e => absurd ((lok_eq (c := 121) hb (by omega) (by omega)).mp e) (by omega), fun e => absurd ((lok_eq (c := 122) hb (by omega) (by omega)).mp e) (by omega), fun _ => hA, fun c => absurd ((lok_eq (c := 126) hb (by omega) (by omega)).mpr ht) c.2.2.2.2.2.2.2.2.2⟩
theorem pick_no {p : Nat} {B40 B48 B49 B97 B98 B99 B120 B121 B122 B126 D : Prop} (hb : ∀ j, j < k → b j < 256) (h40 : tk b k p ≠ 40) (h48 : tk b k p ≠ 48) (h49 : tk b k p ≠ 49) (h97 : tk b k p ≠ 97) (h98 : tk b k p ≠ 98) (h99 : tk b k p ≠ 99) (h120 : tk b k p ≠ 120) (h121 : tk b k p ≠ 121) (h122 : tk b k p ≠ 122) (h126 : tk b k p ≠ 126) (hA : D) : (lok b k p = 40 → B40) ∧ (lok b k p = 48 → B48) ∧ (lok b k p = 49 → B49) ∧ (lok b k p = 97 → B97) ∧ (lok b k p = 98 → B98) ∧ (lok b k p = 99 → B99) ∧ (lok b k p = 120 → B120) ∧ (lok b k p = 121 → B121) ∧ (lok b k p = 122 → B122) ∧ (lok b k p = 126 → B126) ∧ ((¬ lok b k p = 40 ∧ ¬ lok b k p = 48 ∧ ¬ lok b k p = 49 ∧ ¬ lok b k p = 97 ∧ ¬ lok b k p = 98 ∧ ¬ lok b k p = 99 ∧ ¬ lok b k p = 120 ∧ ¬ lok b k p = 121 ∧ ¬ lok b k p = 122 ∧ ¬ lok b k p = 126) → D) :=
  ⟨fun e => absurd ((lok_eq (c := 40) hb (by omega) (by omega)).mp e) (by omega), fun e => absurd ((lok_eq (c := 48) hb (by omega) (by omega)).mp e) (by omega), fun e => absurd ((lok_eq (c := 49) hb (by omega) (by omega)).mp e) (by omega), fun e => absurd ((lok_eq (c := 97) hb (by omega) (by omega)).mp e) (by omega), fun e => absurd ((lok_eq (c := 98) hb (by omega) (by omega)).mp e) (by omega), fun e => absurd ((lok_eq (c := 99) hb (by omega) (by omega)).mp e) (by omega), fun e => absurd ((lok_eq (c := 120) hb (by omega) (by omega)).mp e) (by omega), fun e => absurd ((lok_eq (c := 121) hb (by omega) (by omega)).mp e) (by omega), fun e => absurd ((lok_eq (c := 122) hb (by omega) (by omega)).mp e) (by omega), fun e => absurd ((lok_eq (c := 126) hb (by omega) (by omega)).mp e) (by omega), fun _ => hA⟩
theorem rd_one (hT : tR k b T) (hS : mR k b S) (hN : 100 ≤ N) {d : Nat} (hd : d ≤ 10) (h0 : d < 10 → rdr N k T S 0 (d + 1)) (h2 : d < 10 → rdr N k T S 2 (d + 1)) : rdr N k T S 2 d := by
  have hk := hT.1
  have hb := hT.2.2.2
  intro p hp
  have n37 : (-1 : Int32) < 0 := by decide
  have eT : (tS T (nI p) (-1)).1 2 = nI p := rfl
  have eS : (mS S (nI p) (nI d) (-1)).1 35 = nI p := rfl
  by_cases t40 : tk b k p = 40
  · have hpk := tk_p (b := b) (k := k) (p := p) (by omega)
    by_cases d10 : d = 10
    · refine ⟨false, 0, p, hp, fun c => (by cases c), fun dn Q hdn ho => ?_, fun dn Q hdn ho => ?_⟩
      · obtain ⟨dn, rfl⟩ : ∃ n', dn = n' + 1 := ⟨dn - 1, by omega⟩
        show bX3_single (gX3 N dn 3) (gX3 N dn 4) N _ _ _
        unfold bX3_single
        refine e_look hT hp ?_
        exact pick_40 hb t40 ⟨fun _ => e_miss (ho.2 rfl _ _), fun c => absurd (show nI 10 ≤ nI d from nI_le (by omega) (by omega)) c⟩
      · obtain ⟨dn, rfl⟩ : ∃ n', dn = n' + 1 := ⟨dn - 1, by omega⟩
        refine ⟨fun _ => e_byteAt hS (by omega) ?_, fun c => absurd n37 c⟩
        rw [t40]
        refine ⟨fun _ => ⟨fun c => absurd rfl c, fun _ => ⟨fun c => absurd (show nI d = nI 10 by rw [d10]) c, fun _ => e_wrong ⟨fun c => absurd rfl c, fun _ => ho.2 rfl _ _ _ (by omega)⟩⟩⟩, fun c => absurd c (by decide)⟩
    · have hd9 : d < 10 := by omega
      obtain ⟨ok, r, q, hq, hpq, g3, g6⟩ := h0 hd9 (p + 1) (by omega)
      have start3 : ∀ {dn Q}, (gX3 N dn 0 (tS T (nI (p + 1)) (-1)) (nI (d + 1)) (fun r2 T3 => (fX3_look N T3 (fun r4 => ((¬ r4 = 41 → (fX3_miss N T3 (fun r6 T7 => Q r2 T7))) ∧ (r4 = 41 → (∀ T8 : RS, T8 = sI T3 2 ((T3.1 2) + (1 : Int32)) → Q r2 T8))))))) → gX3 N (dn + 2) 2 (tS T (nI p) (-1)) (nI d) Q := by
        intro dn Q hh
        show bX3_single (gX3 N (dn + 1) 3) (gX3 N (dn + 1) 4) N _ _ _
        unfold bX3_single
        refine e_look hT hp ?_
        refine pick_40 hb t40 ⟨fun c => absurd (show nI 10 ≤ nI d from c) (nI_ge (by omega) (by omega)), fun _ => ?_⟩
        rw [nI_1]
        refine nm_e ?_
        rw [tS_p, eT, nI_1]
        exact hh
      have start6 : ∀ {dn Q}, gX6 N dn 0 (mS S (nI (p + 1)) (nI (d + 1)) (-1)) (fun r24 S25 => ((0 ≤ (S25.1 37) → (fX6_one_91 (gX6 N dn 0) (gX6 N dn 2) N S25 r24 Q)) ∧ (¬ 0 ≤ (S25.1 37) → (fX6_byteAt N S25 (fun r29 => ((r29 = 41 → (fX6_one_91 (gX6 N dn 0) (gX6 N dn 2) N S25 r24 Q)) ∧ (¬ r29 = 41 → (fX6_wrong N S25 (fun r31 S32 => Q r31 S32)))))))) ) → gX6 N (dn + 1) 2 (mS S (nI p) (nI d) (-1)) Q := by
        intro dn Q hh
        refine ⟨fun _ => e_byteAt hS (by omega) ?_, fun c => absurd n37 c⟩
        rw [t40]
        refine ⟨fun _ => ⟨fun c => absurd rfl c, fun _ => ⟨fun _ => nm_e ?_, fun c => absurd (show nI d = nI 10 from c) (nI_ne (by omega) (by omega) d10)⟩⟩, fun c => absurd c (by decide)⟩
        rw [mS_d, show (mS S (nI p) (nI d) (-1)).1 36 = nI d from rfl, nI_1]
        refine nm_e ?_
        rw [mS_p, show (mS S (nI p) (nI (d + 1)) (-1)).1 35 = nI p from rfl, nI_1]
        exact ⟨fun _ => hh, fun c => absurd c (by decide)⟩
      cases ok with
      | false =>
        refine ⟨false, 0, q, hq, fun c => (by cases c), fun dn Q hdn ho => ?_, fun dn Q hdn ho => ?_⟩
        · obtain ⟨dn, rfl⟩ : ∃ n', dn = n' + 2 := ⟨dn - 2, by omega⟩
          refine start3 (g3 dn _ (by omega) ⟨fun c => (by cases c), fun _ v' q' => ?_⟩)
          exact e_lookX (fne (by omega)) ⟨fun _ => e_missX (fne (by omega)) (ho.2 rfl _ _), fun c => absurd c (by decide)⟩
        · obtain ⟨dn, rfl⟩ : ∃ n', dn = n' + 1 := ⟨dn - 1, by omega⟩
          refine start6 (g6 dn _ (by omega) ⟨fun c => (by cases c), fun _ v' q' d' hq' => ⟨fun _ => nm_e ?_, fun c => absurd (nI_pos' (by omega)) c⟩⟩)
          rw [mS_p, show (mS S (nI q') d' (nI q)).1 35 = nI q' from rfl, nI_1]
          refine nm_e ?_
          rw [mS_d]
          exact ho.2 rfl _ _ _ (by omega)
      | true =>
        have hq1 := hpq rfl
        by_cases t41 : tk b k q = 41
        · have hqk := tk_p (b := b) (k := k) (p := q) (by omega)
          refine ⟨true, r, q + 1, hqk, fun _ => by omega, fun dn Q hdn ho => ?_, fun dn Q hdn ho => ?_⟩
          · obtain ⟨dn, rfl⟩ : ∃ n', dn = n' + 2 := ⟨dn - 2, by omega⟩
            refine start3 (g3 dn _ (by omega) ⟨fun _ => e_look hT hq ⟨fun c => absurd ((lok_eq (c := 41) hb (by omega) (by omega)).mpr t41) c, fun _ => nm_e ?_⟩, fun c => (by cases c)⟩)
            rw [tS_p, show (tS T (nI q) (-1)).1 2 = nI q from rfl, nI_1]
            exact ho.1 rfl
          · obtain ⟨dn, rfl⟩ : ∃ n', dn = n' + 1 := ⟨dn - 1, by omega⟩
            refine start6 (g6 dn _ (by omega) ⟨fun _ => ⟨fun c => absurd (show (0 : Int32) ≤ -1 from c) (by decide), fun _ => e_byteAt hS (by omega) ⟨fun _ => nm_e ?_, fun c => absurd (by rw [t41]; rfl) c⟩⟩, fun c => (by cases c)⟩)
            rw [mS_p, show (mS S (nI q) (nI (d + 1)) (-1)).1 35 = nI q from rfl, nI_1]
            refine nm_e ?_
            rw [mS_d, show (mS S (nI (q + 1)) (nI (d + 1)) (-1)).1 36 = nI (d + 1) from rfl, nI_pred]
            exact ho.1 rfl
        · refine ⟨false, 0, q, hq, fun c => (by cases c), fun dn Q hdn ho => ?_, fun dn Q hdn ho => ?_⟩
          · obtain ⟨dn, rfl⟩ : ∃ n', dn = n' + 2 := ⟨dn - 2, by omega⟩
            exact start3 (g3 dn _ (by omega) ⟨fun _ => e_look hT hq ⟨fun _ => e_miss (ho.2 rfl _ _), fun c => absurd ((lok_eq (c := 41) hb (by omega) (by omega)).mp c) t41⟩, fun c => (by cases c)⟩)
          · obtain ⟨dn, rfl⟩ : ∃ n', dn = n' + 1 := ⟨dn - 1, by omega⟩
            exact start6 (g6 dn _ (by omega) ⟨fun _ => ⟨fun c => absurd (show (0 : Int32) ≤ -1 from c) (by decide), fun _ => e_byteAt hS (by omega) ⟨fun c => absurd ((nIe (tk_lt hb q) (by omega)).mp (show nI (tk b k q) = nI 41 from c)) t41, fun _ => e_wrong (ho.2 rfl _ _ _ (by omega))⟩⟩, fun c => (by cases c)⟩)
  by_cases t126 : tk b k p = 126
  · have hpk := tk_p (b := b) (k := k) (p := p) (by omega)
    by_cases d10 : d = 10
    · refine ⟨false, 0, p, hp, fun c => (by cases c), fun dn Q hdn ho => ?_, fun dn Q hdn ho => ?_⟩
      · obtain ⟨dn, rfl⟩ : ∃ n', dn = n' + 1 := ⟨dn - 1, by omega⟩
        show bX3_single (gX3 N dn 3) (gX3 N dn 4) N _ _ _
        unfold bX3_single
        refine e_look hT hp ?_
        exact pick_126 hb t126 ⟨fun _ => e_miss (ho.2 rfl _ _), fun c => absurd (show nI 10 ≤ nI d from nI_le (by omega) (by omega)) c⟩
      · obtain ⟨dn, rfl⟩ : ∃ n', dn = n' + 1 := ⟨dn - 1, by omega⟩
        refine ⟨fun _ => e_byteAt hS (by omega) ?_, fun c => absurd n37 c⟩
        rw [t126]
        exact ⟨fun c => absurd rfl c, fun _ => ⟨fun c => absurd (show nI d = nI 10 by rw [d10]) c, fun _ => e_wrong ⟨fun c => absurd rfl c, fun _ => ho.2 rfl _ _ _ (by omega)⟩⟩⟩
    · have hd9 : d < 10 := by omega
      obtain ⟨ok, r, q, hq, hpq, g3, g6⟩ := h2 hd9 (p + 1) (by omega)
      have start3 : ∀ {dn Q}, (gX3 N dn 2 (tS T (nI (p + 1)) (-1)) (nI (d + 1)) (fun r2 T3 => Q (r2 ^^^ (-1 : Int64)) T3)) → gX3 N (dn + 2) 2 (tS T (nI p) (-1)) (nI d) Q := by
        intro dn Q hh
        show bX3_single (gX3 N (dn + 1) 3) (gX3 N (dn + 1) 4) N _ _ _
        unfold bX3_single
        refine e_look hT hp ?_
        refine pick_126 hb t126 ⟨fun c => absurd (show nI 10 ≤ nI d from c) (nI_ge (by omega) (by omega)), fun _ => ?_⟩
        rw [nI_1]
        refine nm_e ?_
        rw [tS_p, eT, nI_1]
        exact hh
      have start6 : ∀ {dn Q}, gX6 N dn 2 (mS S (nI (p + 1)) (nI (d + 1)) (-1)) (fun r36 S37 => (∀ x38 : Int64, x38 = r36 ^^^ (-1 : Int64) → (∀ S39 : RS, S39 = sI S37 36 ((S37.1 36) - (1 : Int32)) → Q x38 S39))) → gX6 N (dn + 1) 2 (mS S (nI p) (nI d) (-1)) Q := by
        intro dn Q hh
        refine ⟨fun _ => e_byteAt hS (by omega) ?_, fun c => absurd n37 c⟩
        rw [t126]
        refine ⟨fun c => absurd rfl c, fun _ => ⟨fun _ => nm_e ?_, fun c => absurd (show nI d = nI 10 from c) (nI_ne (by omega) (by omega) d10)⟩⟩
        rw [mS_d, show (mS S (nI p) (nI d) (-1)).1 36 = nI d from rfl, nI_1]
        refine nm_e ?_
        rw [mS_p, show (mS S (nI p) (nI (d + 1)) (-1)).1 35 = nI p from rfl, nI_1]
        exact ⟨fun _ => hh, fun c => absurd c (by decide)⟩
      refine ⟨ok, r ^^^ (-1), q, hq, fun c => (by have := hpq c; omega), fun dn Q hdn ho => ?_, fun dn Q hdn ho => ?_⟩
      · obtain ⟨dn, rfl⟩ : ∃ n', dn = n' + 2 := ⟨dn - 2, by omega⟩
        exact start3 (g3 dn _ (by omega) ⟨fun c => ho.1 c, fun c v' q' => ho.2 c _ _⟩)
      · obtain ⟨dn, rfl⟩ : ∃ n', dn = n' + 1 := ⟨dn - 1, by omega⟩
        refine start6 (g6 dn _ (by omega) ⟨fun c => nm_e (nm_e ?_), fun c v' q' d' hq' => nm_e (nm_e ?_)⟩)
        · rw [mS_d, show (mS S (nI q) (nI (d + 1)) (-1)).1 36 = nI (d + 1) from rfl, nI_pred]
          exact ho.1 c
        · rw [mS_d]
          exact ho.2 c _ _ _ (by omega)
  by_cases t48 : tk b k p = 48
  · have hpk := tk_p (b := b) (k := k) (p := p) (by omega)
    refine ⟨true, 0, p + 1, hpk, fun _ => by omega, fun dn Q hdn ho => ?_, fun dn Q hdn ho => ?_⟩
    · obtain ⟨dn, rfl⟩ : ∃ n', dn = n' + 1 := ⟨dn - 1, by omega⟩
      show bX3_single (gX3 N dn 3) (gX3 N dn 4) N _ _ _
      unfold bX3_single
      refine e_look hT hp ?_
      refine pick_48 hb t48 (nm_e ?_)
      rw [tS_p, eT, nI_1]
      exact ho.1 rfl
    · obtain ⟨dn, rfl⟩ : ∃ n', dn = n' + 1 := ⟨dn - 1, by omega⟩
      refine ⟨fun _ => e_byteAt hS (by omega) ?_, fun c => absurd n37 c⟩
      rw [t48]
      refine ⟨fun _ => ⟨fun _ => ⟨fun _ => ⟨fun _ => ⟨fun c => absurd rfl c, fun _ => ⟨fun c => absurd rfl c, fun _ => ⟨fun _ => nm_e ?_, fun c => absurd rfl c⟩⟩⟩, fun c => absurd (by decide) c⟩, fun c => absurd (by decide) c⟩, fun c => absurd c (by decide)⟩, fun c => absurd c (by decide)⟩
      · rw [mS_p, eS, nI_1]
        exact ⟨fun _ => ⟨fun _ => ⟨fun _ => ho.1 rfl, fun c => absurd c (by decide)⟩, fun c => absurd rfl c⟩, fun c => absurd rfl c⟩
  by_cases t49 : tk b k p = 49
  · have hpk := tk_p (b := b) (k := k) (p := p) (by omega)
    refine ⟨true, -1, p + 1, hpk, fun _ => by omega, fun dn Q hdn ho => ?_, fun dn Q hdn ho => ?_⟩
    · obtain ⟨dn, rfl⟩ : ∃ n', dn = n' + 1 := ⟨dn - 1, by omega⟩
      show bX3_single (gX3 N dn 3) (gX3 N dn 4) N _ _ _
      unfold bX3_single
      refine e_look hT hp ?_
      refine pick_49 hb t49 (nm_e ?_)
      rw [tS_p, eT, nI_1]
      exact ho.1 rfl
    · obtain ⟨dn, rfl⟩ : ∃ n', dn = n' + 1 := ⟨dn - 1, by omega⟩
      refine ⟨fun _ => e_byteAt hS (by omega) ?_, fun c => absurd n37 c⟩
      rw [t49]
      refine ⟨fun _ => ⟨fun _ => ⟨fun _ => ⟨fun _ => ⟨fun c => absurd rfl c, fun _ => ⟨fun c => absurd rfl c, fun _ => ⟨fun c => absurd c (by decide), fun _ => ⟨fun _ => nm_e ?_, fun c => absurd rfl c⟩⟩⟩⟩, fun c => absurd (by decide) c⟩, fun c => absurd (by decide) c⟩, fun c => absurd c (by decide)⟩, fun c => absurd c (by decide)⟩
      · rw [mS_p, eS, nI_1]
        exact ⟨fun _ => ⟨fun _ => ⟨fun c => absurd rfl c, fun _ => ho.1 rfl⟩, fun c => absurd rfl c⟩, fun c => absurd rfl c⟩
  by_cases t97 : tk b k p = 97
  · have hpk := tk_p (b := b) (k := k) (p := p) (by omega)
    refine ⟨true, -71777214294589696, p + 1, hpk, fun _ => by omega, fun dn Q hdn ho => ?_, fun dn Q hdn ho => ?_⟩
    · obtain ⟨dn, rfl⟩ : ∃ n', dn = n' + 1 := ⟨dn - 1, by omega⟩
      show bX3_single (gX3 N dn 3) (gX3 N dn 4) N _ _ _
      unfold bX3_single
      refine e_look hT hp ?_
      refine pick_97 hb t97 (nm_e ?_)
      rw [tS_p, eT, nI_1]
      exact ho.1 rfl
    · obtain ⟨dn, rfl⟩ : ∃ n', dn = n' + 1 := ⟨dn - 1, by omega⟩
      refine ⟨fun _ => e_byteAt hS (by omega) ?_, fun c => absurd n37 c⟩
      rw [t97]
      refine ⟨fun _ => ⟨fun _ => ⟨fun c => absurd c (by decide), fun _ => ⟨fun c => absurd c (by decide), fun _ => ⟨fun _ => ⟨fun _ => nm_e ?_, fun c => absurd c (by decide)⟩, fun c => absurd (by decide) c⟩⟩⟩, fun c => absurd c (by decide)⟩, fun c => absurd c (by decide)⟩
      · rw [mS_p, eS, nI_1]
        refine ⟨fun c => absurd c (by decide), fun _ => ?_⟩
        show fX6_letter N (nI 3) _
        refine e_letter hN (by omega) ?_
        rw [lf_97]
        exact ho.1 rfl
  by_cases t98 : tk b k p = 98
  · have hpk := tk_p (b := b) (k := k) (p := p) (by omega)
    refine ⟨true, -281470681808896, p + 1, hpk, fun _ => by omega, fun dn Q hdn ho => ?_, fun dn Q hdn ho => ?_⟩
    · obtain ⟨dn, rfl⟩ : ∃ n', dn = n' + 1 := ⟨dn - 1, by omega⟩
      show bX3_single (gX3 N dn 3) (gX3 N dn 4) N _ _ _
      unfold bX3_single
      refine e_look hT hp ?_
      refine pick_98 hb t98 (nm_e ?_)
      rw [tS_p, eT, nI_1]
      exact ho.1 rfl
    · obtain ⟨dn, rfl⟩ : ∃ n', dn = n' + 1 := ⟨dn - 1, by omega⟩
      refine ⟨fun _ => e_byteAt hS (by omega) ?_, fun c => absurd n37 c⟩
      rw [t98]
      refine ⟨fun _ => ⟨fun _ => ⟨fun c => absurd c (by decide), fun _ => ⟨fun c => absurd c (by decide), fun _ => ⟨fun _ => ⟨fun _ => nm_e ?_, fun c => absurd c (by decide)⟩, fun c => absurd (by decide) c⟩⟩⟩, fun c => absurd c (by decide)⟩, fun c => absurd c (by decide)⟩
      · rw [mS_p, eS, nI_1]
        refine ⟨fun c => absurd c (by decide), fun _ => ?_⟩
        show fX6_letter N (nI 4) _
        refine e_letter hN (by omega) ?_
        rw [lf_98]
        exact ho.1 rfl
  by_cases t99 : tk b k p = 99
  · have hpk := tk_p (b := b) (k := k) (p := p) (by omega)
    refine ⟨true, -4294967296, p + 1, hpk, fun _ => by omega, fun dn Q hdn ho => ?_, fun dn Q hdn ho => ?_⟩
    · obtain ⟨dn, rfl⟩ : ∃ n', dn = n' + 1 := ⟨dn - 1, by omega⟩
      show bX3_single (gX3 N dn 3) (gX3 N dn 4) N _ _ _
      unfold bX3_single
      refine e_look hT hp ?_
      refine pick_99 hb t99 (nm_e ?_)
      rw [tS_p, eT, nI_1]
      exact ho.1 rfl
    · obtain ⟨dn, rfl⟩ : ∃ n', dn = n' + 1 := ⟨dn - 1, by omega⟩
      refine ⟨fun _ => e_byteAt hS (by omega) ?_, fun c => absurd n37 c⟩
      rw [t99]
      refine ⟨fun _ => ⟨fun _ => ⟨fun c => absurd c (by decide), fun _ => ⟨fun c => absurd c (by decide), fun _ => ⟨fun _ => ⟨fun _ => nm_e ?_, fun c => absurd c (by decide)⟩, fun c => absurd (by decide) c⟩⟩⟩, fun c => absurd c (by decide)⟩, fun c => absurd c (by decide)⟩
      · rw [mS_p, eS, nI_1]
        refine ⟨fun c => absurd c (by decide), fun _ => ?_⟩
        show fX6_letter N (nI 5) _
        refine e_letter hN (by omega) ?_
        rw [lf_99]
        exact ho.1 rfl
  by_cases t120 : tk b k p = 120
  · have hpk := tk_p (b := b) (k := k) (p := p) (by omega)
    refine ⟨true, -6148914691236517206, p + 1, hpk, fun _ => by omega, fun dn Q hdn ho => ?_, fun dn Q hdn ho => ?_⟩
    · obtain ⟨dn, rfl⟩ : ∃ n', dn = n' + 1 := ⟨dn - 1, by omega⟩
      show bX3_single (gX3 N dn 3) (gX3 N dn 4) N _ _ _
      unfold bX3_single
      refine e_look hT hp ?_
      refine pick_120 hb t120 (nm_e ?_)
      rw [tS_p, eT, nI_1]
      exact ho.1 rfl
    · obtain ⟨dn, rfl⟩ : ∃ n', dn = n' + 1 := ⟨dn - 1, by omega⟩
      refine ⟨fun _ => e_byteAt hS (by omega) ?_, fun c => absurd n37 c⟩
      rw [t120]
      refine ⟨fun _ => ⟨fun _ => ⟨fun c => absurd c (by decide), fun _ => ⟨fun _ => ⟨fun c => absurd c (by decide), fun _ => ⟨fun c => absurd c (by decide), fun _ => ⟨fun c => absurd rfl c, fun _ => ⟨fun _ => nm_e ?_, fun c => absurd c (by decide)⟩⟩⟩⟩, fun c => absurd (by decide) c⟩⟩, fun c => absurd c (by decide)⟩, fun c => absurd c (by decide)⟩
      · rw [mS_p, eS, nI_1]
        refine ⟨fun _ => ⟨fun c => absurd c (by decide), fun _ => ?_⟩, fun c => absurd rfl c⟩
        show fX6_letter N (nI 0) _
        refine e_letter hN (by omega) ?_
        rw [lf_120]
        exact ho.1 rfl
  by_cases t121 : tk b k p = 121
  · have hpk := tk_p (b := b) (k := k) (p := p) (by omega)
    refine ⟨true, -3689348814741910324, p + 1, hpk, fun _ => by omega, fun dn Q hdn ho => ?_, fun dn Q hdn ho => ?_⟩
    · obtain ⟨dn, rfl⟩ : ∃ n', dn = n' + 1 := ⟨dn - 1, by omega⟩
      show bX3_single (gX3 N dn 3) (gX3 N dn 4) N _ _ _
      unfold bX3_single
      refine e_look hT hp ?_
      refine pick_121 hb t121 (nm_e ?_)
      rw [tS_p, eT, nI_1]
      exact ho.1 rfl
    · obtain ⟨dn, rfl⟩ : ∃ n', dn = n' + 1 := ⟨dn - 1, by omega⟩
      refine ⟨fun _ => e_byteAt hS (by omega) ?_, fun c => absurd n37 c⟩
      rw [t121]
      refine ⟨fun _ => ⟨fun _ => ⟨fun c => absurd c (by decide), fun _ => ⟨fun _ => ⟨fun c => absurd c (by decide), fun _ => ⟨fun c => absurd c (by decide), fun _ => ⟨fun c => absurd rfl c, fun _ => ⟨fun _ => nm_e ?_, fun c => absurd c (by decide)⟩⟩⟩⟩, fun c => absurd (by decide) c⟩⟩, fun c => absurd c (by decide)⟩, fun c => absurd c (by decide)⟩
      · rw [mS_p, eS, nI_1]
        refine ⟨fun _ => ⟨fun c => absurd c (by decide), fun _ => ?_⟩, fun c => absurd rfl c⟩
        show fX6_letter N (nI 1) _
        refine e_letter hN (by omega) ?_
        rw [lf_121]
        exact ho.1 rfl
  by_cases t122 : tk b k p = 122
  · have hpk := tk_p (b := b) (k := k) (p := p) (by omega)
    refine ⟨true, -1085102592571150096, p + 1, hpk, fun _ => by omega, fun dn Q hdn ho => ?_, fun dn Q hdn ho => ?_⟩
    · obtain ⟨dn, rfl⟩ : ∃ n', dn = n' + 1 := ⟨dn - 1, by omega⟩
      show bX3_single (gX3 N dn 3) (gX3 N dn 4) N _ _ _
      unfold bX3_single
      refine e_look hT hp ?_
      refine pick_122 hb t122 (nm_e ?_)
      rw [tS_p, eT, nI_1]
      exact ho.1 rfl
    · obtain ⟨dn, rfl⟩ : ∃ n', dn = n' + 1 := ⟨dn - 1, by omega⟩
      refine ⟨fun _ => e_byteAt hS (by omega) ?_, fun c => absurd n37 c⟩
      rw [t122]
      refine ⟨fun _ => ⟨fun _ => ⟨fun c => absurd c (by decide), fun _ => ⟨fun _ => ⟨fun c => absurd c (by decide), fun _ => ⟨fun c => absurd c (by decide), fun _ => ⟨fun c => absurd rfl c, fun _ => ⟨fun _ => nm_e ?_, fun c => absurd c (by decide)⟩⟩⟩⟩, fun c => absurd (by decide) c⟩⟩, fun c => absurd c (by decide)⟩, fun c => absurd c (by decide)⟩
      · rw [mS_p, eS, nI_1]
        refine ⟨fun _ => ⟨fun c => absurd c (by decide), fun _ => ?_⟩, fun c => absurd rfl c⟩
        show fX6_letter N (nI 2) _
        refine e_letter hN (by omega) ?_
        rw [lf_122]
        exact ho.1 rfl
  have ht := tk_lt hb p
  refine ⟨false, 0, p, hp, fun c => (by cases c), fun dn Q hdn ho => ?_, fun dn Q hdn ho => ?_⟩
  · obtain ⟨dn, rfl⟩ : ∃ n', dn = n' + 1 := ⟨dn - 1, by omega⟩
    show bX3_single (gX3 N dn 3) (gX3 N dn 4) N _ _ _
    unfold bX3_single
    refine e_look hT hp ?_
    exact pick_no hb t40 t48 t49 t97 t98 t99 t120 t121 t122 t126 (e_miss (ho.2 rfl _ _))
  · obtain ⟨dn, rfl⟩ : ∃ n', dn = n' + 1 := ⟨dn - 1, by omega⟩
    have w : fX6_wrong N (mS S (nI p) (nI d) (-1)) Q := e_wrong (ho.2 rfl _ _ _ (by omega))
    have no : ∀ c, c < 256 → tk b k p ≠ c → ¬ nI (tk b k p) = nI c := fun c hc h e => h ((nIe ht hc).mp e)
    have w148 : fX6_one_148 (gX6 N dn 0) (gX6 N dn 2) N (mS S (nI p) (nI d) (-1)) (nI (tk b k p)) 0 0 Q := ⟨fun c => absurd rfl c, fun _ => ⟨fun c => absurd rfl c, fun _ => ⟨fun c => absurd c (no 48 (by omega) t48), fun _ => ⟨fun c => absurd c (no 49 (by omega) t49), fun _ => w⟩⟩⟩⟩
    have w129 : fX6_one_129 (gX6 N dn 0) (gX6 N dn 2) N (mS S (nI p) (nI d) (-1)) (nI (tk b k p)) Q := by
      refine ⟨fun _ => w148, fun c1 => ⟨fun _ => w148, fun c2 => ?_⟩⟩
      exfalso
      have a1 : ¬ nI (tk b k p) < nI 120 := c1
      have a2 : ¬ nI 122 < nI (tk b k p) := c2
      rw [nI_ltI (by omega) (by omega)] at a1 a2
      omega
    refine ⟨fun _ => e_byteAt hS (by omega) ⟨fun _ => ⟨fun _ => ⟨fun _ => w129, fun c1 => ⟨fun _ => w129, fun c2 => ?_⟩⟩, fun c => absurd c (no 40 (by omega) t40)⟩, fun c => absurd c (no 126 (by omega) t126)⟩, fun c => absurd n37 c⟩
    exfalso
    have a1 : ¬ nI (tk b k p) < nI 97 := c1
    have a2 : ¬ nI 99 < nI (tk b k p) := c2
    rw [nI_ltI (by omega) (by omega)] at a1 a2
    omega
theorem rd_2 (hT : tR k b T) (hS : mR k b S) (hN : 100 ≤ N) : ∀ e d, d + e = 10 → rdr N k T S 2 d := by
  intro e
  induction e with
  | zero => exact fun d hd => rd_one hT hS hN (by omega) (fun c => absurd c (by omega)) (fun c => absurd c (by omega))
  | succ e ih => exact fun d hd => rd_one hT hS hN (by omega) (fun c => rd_any hT hS hN (by omega) (rd_all hT hS hN (by omega) (ih (d + 1) (by omega)))) (fun c => ih (d + 1) (by omega))
/-- both readers from the top -/
theorem rd (hT : tR k b T) (hS : mR k b S) (hN : 100 ≤ N) : rdr N k T S 0 0 := rd_any hT hS hN (by omega) (rd_all hT hS hN (by omega) (rd_2 hT hS hN 10 0 rfl))
end READER2
