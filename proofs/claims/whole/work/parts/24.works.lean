/-! the reference works a text out -/
theorem op_lt {j : Nat} (h : k_lt (nI j) 10000 ∨ j < 10003) (hj : j < 2 ^ 31) : nI j < nI 20000 := by
  rw [nI_ltI hj (by decide)]
  rcases h with h | h
  · rw [k_lt_nI hj (by decide)] at h; omega
  · omega
theorem ops_lt : ∀ w, w ∈ opsL → w < 125 ∧ ¬ w = 1 ∧ ¬ w = 2 ∧ ¬ w = 3 := by decide
theorem ops_33 {w : Nat} (h : w ∈ opsL) : ¬ w = 33 := by
  intro q; subst q; revert h; decide
theorem T_works {E : KE} {d at_ : Nat} {n a b c : Int32} {f : Nat → Int32} {τ : Sg} {K : Int32 → Sg → Prop} (hat : at_ ≤ 431) (hT : RT n f (τ 1) at_) (hn : 1 ≤ cl n) (ha : τ 10 0 = a) (hb : τ 10 1 = b) (hc : τ 10 2 = c) (h : ∀ g, K ((evP f a b c (cl n)).2 0) (k_put τ 11 g)) : CallI E shR (d + 1) mX11_works [.ref 0, .int (nI at_)] τ K := by
  obtain ⟨⟨m, hm, en⟩, hr, hen, hw⟩ := hT
  have ecl : cl n = m := by rw [en]; exact nI_clamp (by omega)
  rw [ecl] at hn hen hw h
  refine vc_Md_works ?_
  have loop : ∀ r k, k + r = m → ∀ g : Nat → Int32, (∀ i, i < tpP f k → g i = (evP f a b c k).2 i) → WP E shR mX11_works (d + 1) 4 [some (.ref 0), some (.int (nI at_)), some (.int (nI (tpP f k))), some (.int (nI k)), none] [] (k_put τ 11 g) (k_qi K) := by
    intro r
    induction r with
    | zero =>
      intro k hk g hg
      have e : k = m := by omega
      subst e
      have h1 := wfS_1 hw (k - 1) (by omega)
      rw [Nat.sub_add_cancel hn] at h1
      apply vb_Md_works_4
      simp (disch := omega) only [nI_clamp, nI_add, pk_mul, pk_sub, ↓pk_rem, pk_div, k_mod, k_m1, nI_ltI, nI_leI, nI_eq, k_n0lt, k_nle0, k_0ltn, k_0len, k_n0eq, k_vin, Nat.reduceAdd, Nat.reduceMul, Nat.reduceLT, Nat.reduceLeDiff, Nat.reduceSub, Nat.reduceEqDiff, Nat.zero_add, Nat.add_zero, k_put_at, k_put_ne (by decide : (1 : Nat) ≠ 11), hr, en]
      refine ⟨trivial, fun _ => ⟨trivial, ?_⟩, fun q => by first | exact q.elim | exact absurd (Nat.le_refl _) q⟩
      rw [hg 0 h1]
      exact h g
    | succ r ih =>
      intro k hk g hg
      have hk' : k < m := by omega
      have htp := tpP_le f k
      have ev := evP_tp f a b c k
      have ih := ih (k + 1) (by omega)
      have hek := hen k hk'
      apply vb_Md_works_4
      simp (disch := omega) only [nI_clamp, nI_add, pk_mul, pk_sub, ↓pk_rem, pk_div, k_mod, k_m1, nI_ltI, nI_leI, nI_eq, k_n0lt, k_nle0, k_0ltn, k_0len, k_n0eq, k_vin, Nat.reduceAdd, Nat.reduceMul, Nat.reduceLT, Nat.reduceLeDiff, Nat.reduceSub, Nat.reduceEqDiff, Nat.zero_add, Nat.add_zero, k_put_at, k_put_ne (by decide : (1 : Nat) ≠ 11), hr, en]
      refine ⟨trivial, fun q => absurd q (by omega), fun _ => ⟨trivial, ?_⟩⟩
      rcases hek with ⟨e1, e2, e3⟩ | ⟨j, hj, e1, e2, e3⟩ | ⟨e1, e2⟩ | ⟨w, hw1, e1, e2⟩
      · rw [e1]
        refine ⟨fun _ => ?_, fun q => absurd rfl q⟩
        apply vb_Md_works_38
        simp (disch := omega) only [nI_clamp, nI_add, pk_mul, pk_sub, ↓pk_rem, pk_div, k_mod, k_m1, nI_ltI, nI_leI, nI_eq, k_n0lt, k_nle0, k_0ltn, k_0len, k_n0eq, k_vin, Nat.reduceAdd, Nat.reduceMul, Nat.reduceLT, Nat.reduceLeDiff, Nat.reduceSub, Nat.reduceEqDiff, Nat.zero_add, Nat.add_zero, k_put_at, k_put_ne (by decide : (1 : Nat) ≠ 11)]
        refine ⟨fun q => by first | exact q.elim | exact absurd rfl q | exact absurd trivial q, fun _ => ⟨trivial, trivial, ?_⟩⟩
        rintro _ rfl
        rw [k_put_put]
        obtain ⟨j, hj, e4⟩ := e3
        have hlt : f k < nI 20000 := by rw [e4]; exact op_lt (Or.inr (by omega)) (by omega)
        simp only [tpP, evP, if_pos hlt] at ih
        refine ih _ (fun i hi => ?_)
        rw [ev, e2]
        have eo : oprF (f k) a b c = f k := by
          unfold oprF
          rw [e4, if_neg, if_neg, if_neg]
          all_goals rw [nI_eqM]; omega
        by_cases hit : i = tpP f k
        · subst hit; rw [upd_at, upd_at, eo]
        · rw [upd_ne hit, upd_ne hit]; exact hg i (by omega)
      · rw [e1]
        refine ⟨fun q => absurd q (by decide), fun _ => ⟨fun q => absurd rfl q, fun _ => ?_⟩⟩
        apply vb_Md_works_38
        simp (disch := omega) only [nI_clamp, nI_add, pk_mul, pk_sub, ↓pk_rem, pk_div, k_mod, k_m1, nI_ltI, nI_leI, nI_eq, k_n0lt, k_nle0, k_0ltn, k_0len, k_n0eq, k_vin, Nat.reduceAdd, Nat.reduceMul, Nat.reduceLT, Nat.reduceLeDiff, Nat.reduceSub, Nat.reduceEqDiff, Nat.zero_add, Nat.add_zero, k_put_at, k_put_ne (by decide : (1 : Nat) ≠ 11), k_put_ne (by decide : (10 : Nat) ≠ 11)]
        refine ⟨fun _ => ⟨trivial, ?_, trivial, ?_⟩, fun q => by first | exact q.elim | exact absurd q (by decide)⟩
        · rw [e2]; exact vp_in_nI hj (by decide)
        rintro _ rfl
        rw [k_put_put]
        have hlt : f k < nI 20000 := by rw [e3]; exact op_lt (Or.inr (by omega)) (by omega)
        simp only [tpP, evP, if_pos hlt] at ih
        refine ih _ (fun i hi => ?_)
        rw [ev, e2, nI_clamp (by omega)]
        have eo : oprF (f k) a b c = τ 10 j := by
          unfold oprF
          rw [e3]
          rcases (by omega : j = 0 ∨ j = 1 ∨ j = 2) with rfl | rfl | rfl
          · rw [if_pos rfl, ha]
          · rw [if_neg (by decide), if_pos rfl, hb]
          · rw [if_neg (by decide), if_neg (by decide), if_pos rfl, hc]
        by_cases hit : i = tpP f k
        · subst hit; rw [upd_at, upd_at, eo]
        · rw [upd_ne hit, upd_ne hit]; exact hg i (by omega)
      · rw [e1]
        have hlt : ¬ f k < nI 20000 := by rw [e2]; decide
        have h2 := (hw k hk' hlt).1 e2
        simp only [tpP, evP, if_neg hlt, if_pos e2] at ih
        obtain ⟨t, ht⟩ : ∃ t, tpP f k = t + 1 := ⟨tpP f k - 1, by omega⟩
        rw [ev] at ih
        rw [ht] at ih hg htp ⊢
        simp (disch := omega) only [nI_clamp, nI_add, pk_mul, pk_sub, ↓pk_rem, pk_div, k_mod, k_m1, nI_ltI, nI_leI, nI_eq, k_n0lt, k_nle0, k_0ltn, k_0len, k_n0eq, k_vin, Nat.reduceAdd, Nat.reduceMul, Nat.reduceLT, Nat.reduceLeDiff, Nat.reduceSub, Nat.reduceEqDiff, Nat.zero_add, Nat.add_zero, k_put_at, Nat.add_sub_cancel, Nat.reduceSubDiff, Nat.add_one_sub_one]
        simp (disch := omega) only [Nat.add_sub_cancel, Nat.reduceSubDiff, Nat.add_one_sub_one] at ih
        refine ⟨fun q => by first | exact q.elim | exact absurd q (by decide), fun _ => ⟨fun _ => ⟨fun q => by first | exact q.elim | exact absurd trivial q, fun _ => ⟨trivial, ?_, ?_⟩⟩, fun q => by first | exact q.elim | exact absurd q (by decide)⟩⟩
        all_goals
          intro q4
          refine ⟨trivial, ?_⟩
          rintro _ rfl
          rw [k_put_put]
          refine ih _ (fun i hi => ?_)
          have e9 := hg t (by omega)
          by_cases hit : i = t
          · subst hit; rw [upd_at, upd_at]; simp only [← e9, q4, if_true, if_false]
          · rw [upd_ne hit, upd_ne hit]; exact hg i (by omega)
      · have hw2 : w < 125 ∧ ¬ w = 1 ∧ ¬ w = 2 ∧ ¬ w = 3 := ops_lt w hw1
        have hlt : ¬ f k < nI 20000 := by rw [e2, nI_ltI (by omega) (by decide)]; omega
        have hne : ¬ f k = nI 20033 := by
          rw [e2, nI_eq (by omega) (by decide)]
          intro q
          exact ops_33 hw1 (by omega)
        have h2 := (hw k hk' hlt).2 hne
        simp only [tpP, evP, if_neg hlt, if_neg hne] at ih
        obtain ⟨t, ht⟩ : ∃ t, tpP f k = t + 2 := ⟨tpP f k - 2, by omega⟩
        rw [ev] at ih
        rw [ht] at ih hg htp ⊢
        rw [e1]
        simp (disch := omega) only [nI_clamp, nI_add, pk_mul, pk_sub, ↓pk_rem, pk_div, k_mod, k_m1, nI_ltI, nI_leI, nI_eq, k_n0lt, k_nle0, k_0ltn, k_0len, k_n0eq, k_vin, Nat.reduceAdd, Nat.reduceMul, Nat.reduceLT, Nat.reduceLeDiff, Nat.reduceSub, Nat.reduceEqDiff, Nat.zero_add, Nat.add_zero, k_put_at, Nat.add_sub_cancel, Nat.reduceSubDiff, Nat.add_one_sub_one]
        simp (disch := omega) only [Nat.add_sub_cancel, Nat.reduceSubDiff, Nat.add_one_sub_one] at ih
        refine ⟨fun q => absurd q hw2.2.1, fun _ => ⟨fun _ => ⟨fun _ => ⟨trivial, trivial, T_twoOf ⟨w, hw1, rfl⟩ ⟨trivial, ?_⟩⟩, fun q => absurd q hw2.2.2.2⟩, fun q => absurd q hw2.2.2.1⟩⟩
        rintro _ rfl
        rw [k_put_put, k_put_at]
        refine ih _ (fun i hi => ?_)
        rw [hg t (by omega), hg (t + 1) (by omega), e2, pk_sub (by omega), show 20000 + w - 20000 = w by omega]
        by_cases hit : i = t
        · subst hit; rw [upd_at, upd_at]
        · rw [upd_ne hit, upd_ne hit]; exact hg i (by omega)
  have e : τ = k_put τ 11 (τ 11) := by
    funext i; unfold k_put; split
    · next h => rw [h]
    · rfl
  rw [e]
  exact loop m 0 (by omega) _ (fun i hi => absurd hi (Nat.not_lt_zero i))
