section LOSE2
variable {N : Nat} {ls : List Lw} {G : RS} {C : Nat → Prop}
theorem e_loseSome {r : Nat} {op : List Nat} {Q : Int32 → RS → Prop} (hN : 1100 ≤ N) (hC : CL ls C) (hr : r < 1024) (hS : SV ls C r op G) (h : ∀ G', SV ls C (r + 1) (op.filter (nl ls (r + 1))) G' → (op.length ≤ (op.filter (nl ls (r + 1))).length → Q 0 G') ∧ ((op.filter (nl ls (r + 1))).length < op.length → Q 1 G')) : fX0_loseSome N G (nI (r + 1)) Q := by
  obtain ⟨hG, ⟨ec, hlen, h5⟩, hnd, hmem, hLV⟩ := hS
  have key := loop_i (σ := (Nat → Int32) × (Nat → Int32) × (Nat → Int64) × (Nat → Int32)) (fun w j s => fX0_loseSome_4 N (nI (r + 1)) (fun x17 G18 => (((G18.1 6) ≤ x17 → (fX0_loseSome_98 N G18 x17 0 Q)) ∧ (¬ (G18.1 6) ≤ x17 → (fX0_loseSome_98 N G18 x17 1 Q)))) Q w (nI ((op.take j).filter (nl ls (r + 1))).length) (nI j) (lS G s.1 s.2.1 s.2.2.1 s.2.2.2)) (fun j s => (∀ i q, ((op.take j).filter (nl ls (r + 1)))[i]? = some q → s.1 i = nI q) ∧ (∀ i q, j ≤ i → op[i]? = some q → s.1 i = nI q) ∧ (∀ q, C q → (q ∈ op.take j → Lst ls (r + 1) q → s.2.1 q = nI (r + 1)) ∧ (¬ (q ∈ op.take j ∧ Lst ls (r + 1) q) → s.2.1 q = G.2.1 7 q))) op.length ?_ ?_ N 0 (G.2.1 5, G.2.1 7, G.2.2.2 8, G.2.1 9) (by omega) (by omega) ?_
  · have key : fX0_loseSome_4 N (nI (r + 1)) (fun x17 G18 => (((G18.1 6) ≤ x17 → (fX0_loseSome_98 N G18 x17 0 Q)) ∧ (¬ (G18.1 6) ≤ x17 → (fX0_loseSome_98 N G18 x17 1 Q)))) Q N 0 0 (lS G (G.2.1 5) (G.2.1 7) (G.2.2.2 8) (G.2.1 9)) := key
    rw [lS_self] at key
    exact key
  · rintro w ⟨a5, a7, mk, en⟩ ⟨i1, i2, i3⟩
    rw [List.take_length] at i1 i3 ⊢
    refine lp_end ec ?_
    have sv : SV ls C (r + 1) (op.filter (nl ls (r + 1))) (sI (lS G a5 a7 mk en) 6 (nI (op.filter (nl ls (r + 1))).length)) := by
      refine ⟨hG, ⟨rfl, Nat.le_trans (List.length_filter_le ..) hlen, i1⟩, hnd.filter _, fun q => ?_, fun q hq => ?_⟩
      · rw [List.mem_filter, hmem, nl_t]
        exact ⟨fun ⟨⟨a, _⟩, b⟩ => ⟨a, b⟩, fun ⟨a, b⟩ => ⟨⟨a, fun c => b (Lst_up c)⟩, b⟩⟩
      · show ∃ m, a7 q = nI m ∧ _
        obtain ⟨j1, j2⟩ := i3 q hq
        obtain ⟨m, em, hm, hh⟩ := hLV q hq
        by_cases c1 : Lst ls (r + 1) q
        · by_cases c0 : Lst ls r q
          · refine ⟨m, (j2 (fun c => ((hmem q).mp c.1).2 c0)).trans em, by omega, ?_⟩
            rcases hh with ⟨_, z⟩ | z
            · exact absurd c0 z
            · exact Or.inr z
          · exact ⟨r + 1, j1 ((hmem q).mpr ⟨hq, c0⟩) c1, Nat.le_refl _, Or.inr ⟨by omega, c1, c0⟩⟩
        · refine ⟨m, (j2 (fun c => c1 c.2)).trans em, by omega, ?_⟩
          rcases hh with ⟨z, _⟩ | ⟨_, z, _⟩
          · exact Or.inl ⟨z, c1⟩
          · exact absurd (Lst_mono (by omega) z) c1
    obtain ⟨q0, q1⟩ := h _ sv
    have hle : (op.filter (nl ls (r + 1))).length ≤ op.length := List.length_filter_le ..
    show ((G.1 6 ≤ _ → _) ∧ (¬ G.1 6 ≤ _ → _))
    rw [ec]
    refine ⟨fun c => nm_e ⟨isBool_0, q0 ((nI_leI (by omega) (by omega)).mp c)⟩, fun c => nm_e ⟨isBool_1, q1 ?_⟩⟩
    rw [nI_leI (by omega) (by omega)] at c
    omega
  · rintro w j ⟨a5, a7, mk, en⟩ hj ⟨i1, i2, i3⟩ ih
    have i1 : ∀ i q, ((op.take j).filter (nl ls (r + 1)))[i]? = some q → a5 i = nI q := i1
    have i2 : ∀ i q, j ≤ i → op[i]? = some q → a5 i = nI q := i2
    have i3 : ∀ q, C q → (q ∈ op.take j → Lst ls (r + 1) q → a7 q = nI (r + 1)) ∧ (¬ (q ∈ op.take j ∧ Lst ls (r + 1) q) → a7 q = G.2.1 7 q) := i3
    obtain ⟨p, hp⟩ : ∃ p, op[j]? = some p := ⟨op[j], List.getElem?_eq_getElem hj⟩
    have hpo : p ∈ op := List.mem_of_getElem? hp
    obtain ⟨hCp, hnp⟩ := (hmem p).mp hpo
    have hp1 := hC.1 p hCp
    have et : op.take (j + 1) = op.take j ++ [p] := by rw [List.take_succ, hp]; rfl
    have hkj : ((op.take j).filter (nl ls (r + 1))).length ≤ j := Nat.le_trans (List.length_filter_le ..) (by rw [List.length_take]; omega)
    have e5 : a5 j = nI p := i2 j p (Nat.le_refl _) hp
    -- one place, weighed
    have one : ∀ (O : Int64) (mk' : Nat → Int64) (en' : Nat → Int32), (∀ t, t < 64 → (tb O t = true ↔ ∃ q, gst ls p t = some q ∧ ¬ Lst ls r q)) → fX0_loseSome_45 N (lS G a5 a7 mk' en') (nI (r + 1)) (nI ((op.take j).filter (nl ls (r + 1))).length) (nI j) (nI p) O (fun v2 v3 G => fX0_loseSome_4 N (nI (r + 1)) (fun x17 G18 => (((G18.1 6) ≤ x17 → (fX0_loseSome_98 N G18 x17 0 Q)) ∧ (¬ (G18.1 6) ≤ x17 → (fX0_loseSome_98 N G18 x17 1 Q)))) Q w v2 v3 G) (fun x17 G18 => (((G18.1 6) ≤ x17 → (fX0_loseSome_98 N G18 x17 0 Q)) ∧ (¬ (G18.1 6) ≤ x17 → (fX0_loseSome_98 N G18 x17 1 Q)))) Q := by
      intro O mk' en' hO
      refine e_lose1 (by omega) hO (fun k hk hk8 => ⟨fun c => ?_, fun c => ?_⟩)
      · have hn : ¬ Lst ls (r + 1) p := hk.mp ((nI_leI (a := 8) (by omega) (by omega)).mp c)
        have ef : (op.take (j + 1)).filter (nl ls (r + 1)) = (op.take j).filter (nl ls (r + 1)) ++ [p] := by
          rw [et, List.filter_append, List.filter_cons_of_pos (nl_t.mpr hn), List.filter_nil]
        refine ⟨vp_in_nI (by omega) (by omega), nm_e (nm_r (nI_1 _) (nm_r (nI_1 j) ?_))⟩
        rw [lS_5, nI_clamp (by omega), show (lS G a5 a7 mk' en').2.1 5 = a5 from rfl]
        have := ih (upd a5 ((op.take j).filter (nl ls (r + 1))).length (nI p), a7, mk', en') ⟨fun i q hq => ?_, fun i q hi hq => ?_, fun q hq => ⟨fun c1 c2 => ?_, fun c1 => ?_⟩⟩
        · rw [ef, List.length_append, List.length_singleton] at this
          exact this
        · rw [ef] at hq
          show upd a5 _ (nI p) i = nI q
          by_cases z : i < ((op.take j).filter (nl ls (r + 1))).length
          · rw [List.getElem?_append_left z] at hq
            rw [pk_un (by omega)]
            exact i1 i q hq
          · rw [List.getElem?_append_right (by omega)] at hq
            have z2 : i = ((op.take j).filter (nl ls (r + 1))).length := by
              have := (List.getElem?_eq_some_iff.mp hq).1
              rw [List.length_singleton] at this
              omega
            subst z2
            rw [Nat.sub_self] at hq
            cases hq
            rw [pk_us]
        · show upd a5 _ (nI p) i = nI q
          rw [pk_un (by omega)]
          exact i2 i q (by omega) hq
        · rw [et, List.mem_append, List.mem_singleton] at c1
          rcases c1 with c1 | c1
          · exact (i3 q hq).1 c1 c2
          · subst c1
            exact absurd c2 hn
        · refine (i3 q hq).2 (fun c2 => c1 ⟨?_, c2.2⟩)
          rw [et]
          exact List.mem_append.mpr (Or.inl c2.1)
      · have hL : Lst ls (r + 1) p := Classical.byContradiction (fun hn => c (nI_le (a := 8) (hk.mpr hn) (by omega)))
        have ef : (op.take (j + 1)).filter (nl ls (r + 1)) = (op.take j).filter (nl ls (r + 1)) := by
          rw [et, List.filter_append, List.filter_cons_of_neg (fun z => nl_t.mp z hL), List.filter_nil, List.append_nil]
        refine ⟨vp_in_nI (by omega) (by omega), nm_e (nm_r (nI_1 j) ?_)⟩
        rw [lS_7, nI_clamp (by omega), show (lS G a5 a7 mk' en').2.1 7 = a7 from rfl]
        have := ih (a5, upd a7 p (nI (r + 1)), mk', en') ⟨fun i q hq => ?_, fun i q hi hq => i2 i q (by omega) hq, fun q hq => ⟨fun c1 c2 => ?_, fun c1 => ?_⟩⟩
        · rw [ef] at this
          exact this
        · rw [ef] at hq
          exact i1 i q hq
        · show upd a7 p (nI (r + 1)) q = nI (r + 1)
          by_cases z : q = p
          · subst z
            rw [pk_us]
          · rw [pk_un z]
            rw [et, List.mem_append, List.mem_singleton] at c1
            exact (i3 q hq).1 (c1.resolve_right z) c2
        · show upd a7 p (nI (r + 1)) q = G.2.1 7 q
          have z : q ≠ p := fun z => c1 ⟨by rw [et, z]; exact List.mem_append.mpr (Or.inr (List.mem_singleton.mpr rfl)), by rw [z]; exact hL⟩
          rw [pk_un z]
          refine (i3 q hq).2 (fun c2 => c1 ⟨?_, c2.2⟩)
          rw [et]
          exact List.mem_append.mpr (Or.inl c2.1)
    have hGl : GG ls (lS G a5 a7 mk en) := hG
    refine lp_in (show (lS G a5 a7 mk en).1 6 = _ from ec) (by omega) hj ⟨vp_in_nI (by omega) (by omega), ?_⟩
    rw [nI_clamp (by omega), show (lS G a5 a7 mk en).2.1 5 j = nI p from e5]
    refine nm_e ⟨fun c1 => e_openBefore (by omega) hGl (by omega) (fun O mk' en' hO => ?_), fun c1 => ?_⟩
    · show fX0_loseSome_45 N (spS (spS (sA (sA G 7 a7) 5 a5) mk en) mk' en') _ _ _ _ _ _ _ _
      rw [spS_2]
      refine one O mk' en' (fun t ht => ?_)
      rw [hO t ht]
      show (∃ q, gst ls p t = some q ∧ (a7 q = 0 ∨ ¬ a7 q < nI (r + 1))) ↔ _
      have hone : ∀ q, gst ls p t = some q → ((a7 q = 0 ∨ ¬ a7 q < nI (r + 1)) ↔ ¬ Lst ls r q) := by
        intro q hq
        have hCq := hC.2 p t q hCp ht hq
        by_cases z : q ∈ op.take j ∧ Lst ls (r + 1) q
        · rw [(i3 q hCq).1 z.1 z.2]
          exact ⟨fun _ => ((hmem q).mp (List.mem_of_mem_take z.1)).2, fun _ => Or.inr (nI_nlt (Nat.le_refl _) (by omega))⟩
        · rw [(i3 q hCq).2 z]
          exact LV_iff hLV (by omega) hCq
      exact ⟨fun ⟨q, a, b⟩ => ⟨q, a, (hone q a).mp b⟩, fun ⟨q, a, b⟩ => ⟨q, a, (hone q a).mpr b⟩⟩
    · have r0 : r = 0 := by
        have := (nI_eq (a := r + 1) (b := 1) (by omega) (by omega)).mp c1
        omega
      rw [show (lS G a5 a7 mk en).1 0 = nI ls.length from hG.2.1]
      refine e_unbroken (by omega) hGl (by omega) (Nat.le_refl _) (fun M hM => ?_)
      rw [List.take_length] at hM
      refine one M mk en (fun t ht => ?_)
      rw [hM t ht, r0]
      cases gst ls p t with
      | none => exact ⟨fun c => (by cases c), fun ⟨q, c, _⟩ => (by cases c)⟩
      | some q => exact ⟨fun _ => ⟨q, rfl, fun c => c⟩, fun _ => rfl⟩
  · exact ⟨fun i q hq => (by simp at hq), fun i q _ hq => h5 i q hq, fun q _ => ⟨fun c => (by simp at c), fun _ => rfl⟩⟩
end LOSE2
