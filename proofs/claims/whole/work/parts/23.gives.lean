/-! texts are worked out -/
theorem T_gives_12 {E : KE} {d m : Nat} {a b c : Int32} {σ : Sg} {K : Int32 → Sg → Prop} (hm : σ 13 1 = nI m) (hm1 : 1 ≤ m) (hm2 : m ≤ 60) (hw : wfS (σ 14) m) (h : ∀ g, K ((evP (σ 14) a b c m).2 0) (k_put σ 15 g)) : CallI E shC (d + 1) mX6_gives [.ref 12, .int a, .int b, .int c] σ K := by
  refine vc_Text_gives_12 ?_
  have n1 : (13 : Nat) ≠ 15 := by decide
  have n2 : (14 : Nat) ≠ 15 := by decide
  have loop : ∀ n k, k + n = m → ∀ g : Nat → Int32, (∀ i, i < tpP (σ 14) k → g i = (evP (σ 14) a b c k).2 i) → WP E shC mX6_gives (d + 1) 6 [some (.ref 12), some (.int a), some (.int b), some (.int c), some (.int (nI (tpP (σ 14) k))), some (.int (nI k)), none] [] (k_put σ 15 g) (k_qi K) := by
    intro n
    induction n with
    | zero =>
      intro k hk g hg
      have e : k = m := by omega
      subst e
      have h1 := wfS_1 hw (k - 1) (by omega)
      rw [Nat.sub_add_cancel hm1] at h1
      apply vb_Text_gives_12_6
      simp (disch := omega) only [nI_clamp, nI_add, pk_mul, pk_sub, ↓pk_rem, pk_div, k_mod, k_m1, nI_ltI, nI_leI, nI_eq, k_n0lt, k_nle0, k_0ltn, k_0len, k_n0eq, k_vin, Nat.reduceAdd, Nat.reduceMul, Nat.reduceLT, Nat.reduceLeDiff, Nat.reduceSub, Nat.reduceEqDiff, Nat.zero_add, Nat.add_zero, k_put_at, k_put_ne n1, k_put_ne n2, hm]
      refine ⟨fun _ => ⟨trivial, ?_⟩, fun q => absurd (Nat.le_refl _) q⟩
      rw [hg 0 h1]
      exact h g
    | succ n ih =>
      intro k hk g hg
      have hk' : k < m := by omega
      have htp := tpP_le (σ 14) k
      have ev := evP_tp (σ 14) a b c k
      have ih := ih (k + 1) (by omega)
      apply vb_Text_gives_12_6
      simp (disch := omega) only [nI_clamp, nI_add, pk_mul, pk_sub, ↓pk_rem, pk_div, k_mod, k_m1, nI_ltI, nI_leI, nI_eq, k_n0lt, k_nle0, k_0ltn, k_0len, k_n0eq, k_vin, Nat.reduceAdd, Nat.reduceMul, Nat.reduceLT, Nat.reduceLeDiff, Nat.reduceSub, Nat.reduceEqDiff, Nat.zero_add, Nat.add_zero, k_put_at, k_put_ne n1, k_put_ne n2, hm]
      refine ⟨fun q => absurd q (by omega), fun _ => ⟨trivial, fun q => ?_, fun q => ⟨fun q2 => absurd q2 (by omega), fun _ => T_operand ⟨trivial, ?_⟩⟩⟩⟩
      · have hlt : ¬ σ 14 k < nI 20000 := k_ngt q
        have hk2 := hw k hk' hlt
        apply vb_Text_gives_12_69
        simp only [tpP, evP, if_neg hlt] at ih
        refine ⟨fun q2 => ?_, fun q2 => ?_⟩
        · have h2 := hk2.2 q2
          simp only [if_neg q2] at ih
          obtain ⟨t, ht⟩ : ∃ t, tpP (σ 14) k = t + 2 := ⟨tpP (σ 14) k - 2, by omega⟩
          rw [ev] at ih
          rw [ht] at ih hg htp ⊢
          simp (disch := omega) only [nI_clamp, nI_add, pk_mul, pk_sub, ↓pk_rem, pk_div, k_mod, k_m1, nI_ltI, nI_leI, nI_eq, k_n0lt, k_nle0, k_0ltn, k_0len, k_n0eq, k_vin, Nat.reduceAdd, Nat.reduceMul, Nat.reduceLT, Nat.reduceLeDiff, Nat.reduceSub, Nat.reduceEqDiff, Nat.zero_add, Nat.add_zero, k_put_at, Nat.add_sub_cancel, Nat.reduceSubDiff, Nat.add_one_sub_one]
          simp (disch := omega) only [Nat.add_sub_cancel, Nat.reduceSubDiff, Nat.add_one_sub_one] at ih
          refine ⟨fun q3 => by first | exact q3.elim | exact absurd q3 (by omega), fun _ => ⟨trivial, trivial, T_joined ⟨trivial, ?_⟩⟩⟩
          rintro _ rfl
          rw [k_put_put, k_put_at]
          refine ih _ (fun i hi => ?_)
          rw [hg t (by omega), hg (t + 1) (by omega)]
          by_cases hit : i = t
          · subst hit; rw [upd_at, upd_at]
          · rw [upd_ne hit, upd_ne hit]; exact hg i (by omega)
        · have h2 := hk2.1 q2
          simp only [if_pos q2] at ih
          obtain ⟨t, ht⟩ : ∃ t, tpP (σ 14) k = t + 1 := ⟨tpP (σ 14) k - 1, by omega⟩
          rw [ev] at ih
          rw [ht] at ih hg htp ⊢
          simp (disch := omega) only [nI_clamp, nI_add, pk_mul, pk_sub, ↓pk_rem, pk_div, k_mod, k_m1, nI_ltI, nI_leI, nI_eq, k_n0lt, k_nle0, k_0ltn, k_0len, k_n0eq, k_vin, Nat.reduceAdd, Nat.reduceMul, Nat.reduceLT, Nat.reduceLeDiff, Nat.reduceSub, Nat.reduceEqDiff, Nat.zero_add, Nat.add_zero, k_put_at, Nat.add_sub_cancel, Nat.reduceSubDiff, Nat.add_one_sub_one]
          simp (disch := omega) only [Nat.add_sub_cancel, Nat.reduceSubDiff, Nat.add_one_sub_one] at ih
          refine ⟨fun q3 => by first | exact q3.elim | exact absurd q3 (by omega), fun _ => ⟨trivial, ?_, ?_⟩⟩
          all_goals
            intro q4
            refine ⟨trivial, ?_⟩
            rintro _ rfl
            rw [k_put_put]
            refine ih _ (fun i hi => ?_)
            have e9 := hg t (by omega)
            by_cases hit : i = t
            · subst hit; rw [upd_at, upd_at]; simp only [← e9, q4, if_true, if_false]
            · rw [upd_ne hit, upd_ne hit]; exact hg i (by omega)
      · have hlt : σ 14 k < nI 20000 := by rw [k_lei] at q; rw [k_lti]; omega
        simp only [tpP, evP, if_pos hlt] at ih
        rintro _ rfl
        rw [k_put_put, k_put_at]
        refine ih _ (fun i hi => ?_)
        rw [ev]
        by_cases hit : i = tpP (σ 14) k
        · subst hit; rw [upd_at, upd_at]
        · rw [upd_ne hit, upd_ne hit]; exact hg i (by omega)
  have e : σ = k_put σ 15 (σ 15) := by
    funext i; unfold k_put; split
    · next h => rw [h]
    · rfl
  rw [e]
  exact loop m 0 (by omega) _ (fun i hi => absurd hi (Nat.not_lt_zero i))
theorem T_gives_16 {E : KE} {d m : Nat} {a b c : Int32} {σ : Sg} {K : Int32 → Sg → Prop} (hm : σ 17 1 = nI m) (hm1 : 1 ≤ m) (hm2 : m ≤ 60) (hw : wfS (σ 18) m) (h : ∀ g, K ((evP (σ 18) a b c m).2 0) (k_put σ 19 g)) : CallI E shC (d + 1) mX6_gives [.ref 16, .int a, .int b, .int c] σ K := by
  refine vc_Text_gives_16 ?_
  have n1 : (17 : Nat) ≠ 19 := by decide
  have n2 : (18 : Nat) ≠ 19 := by decide
  have loop : ∀ n k, k + n = m → ∀ g : Nat → Int32, (∀ i, i < tpP (σ 18) k → g i = (evP (σ 18) a b c k).2 i) → WP E shC mX6_gives (d + 1) 6 [some (.ref 16), some (.int a), some (.int b), some (.int c), some (.int (nI (tpP (σ 18) k))), some (.int (nI k)), none] [] (k_put σ 19 g) (k_qi K) := by
    intro n
    induction n with
    | zero =>
      intro k hk g hg
      have e : k = m := by omega
      subst e
      have h1 := wfS_1 hw (k - 1) (by omega)
      rw [Nat.sub_add_cancel hm1] at h1
      apply vb_Text_gives_16_6
      simp (disch := omega) only [nI_clamp, nI_add, pk_mul, pk_sub, ↓pk_rem, pk_div, k_mod, k_m1, nI_ltI, nI_leI, nI_eq, k_n0lt, k_nle0, k_0ltn, k_0len, k_n0eq, k_vin, Nat.reduceAdd, Nat.reduceMul, Nat.reduceLT, Nat.reduceLeDiff, Nat.reduceSub, Nat.reduceEqDiff, Nat.zero_add, Nat.add_zero, k_put_at, k_put_ne n1, k_put_ne n2, hm]
      refine ⟨fun _ => ⟨trivial, ?_⟩, fun q => absurd (Nat.le_refl _) q⟩
      rw [hg 0 h1]
      exact h g
    | succ n ih =>
      intro k hk g hg
      have hk' : k < m := by omega
      have htp := tpP_le (σ 18) k
      have ev := evP_tp (σ 18) a b c k
      have ih := ih (k + 1) (by omega)
      apply vb_Text_gives_16_6
      simp (disch := omega) only [nI_clamp, nI_add, pk_mul, pk_sub, ↓pk_rem, pk_div, k_mod, k_m1, nI_ltI, nI_leI, nI_eq, k_n0lt, k_nle0, k_0ltn, k_0len, k_n0eq, k_vin, Nat.reduceAdd, Nat.reduceMul, Nat.reduceLT, Nat.reduceLeDiff, Nat.reduceSub, Nat.reduceEqDiff, Nat.zero_add, Nat.add_zero, k_put_at, k_put_ne n1, k_put_ne n2, hm]
      refine ⟨fun q => absurd q (by omega), fun _ => ⟨trivial, fun q => ?_, fun q => ⟨fun q2 => absurd q2 (by omega), fun _ => T_operand ⟨trivial, ?_⟩⟩⟩⟩
      · have hlt : ¬ σ 18 k < nI 20000 := k_ngt q
        have hk2 := hw k hk' hlt
        apply vb_Text_gives_16_69
        simp only [tpP, evP, if_neg hlt] at ih
        refine ⟨fun q2 => ?_, fun q2 => ?_⟩
        · have h2 := hk2.2 q2
          simp only [if_neg q2] at ih
          obtain ⟨t, ht⟩ : ∃ t, tpP (σ 18) k = t + 2 := ⟨tpP (σ 18) k - 2, by omega⟩
          rw [ev] at ih
          rw [ht] at ih hg htp ⊢
          simp (disch := omega) only [nI_clamp, nI_add, pk_mul, pk_sub, ↓pk_rem, pk_div, k_mod, k_m1, nI_ltI, nI_leI, nI_eq, k_n0lt, k_nle0, k_0ltn, k_0len, k_n0eq, k_vin, Nat.reduceAdd, Nat.reduceMul, Nat.reduceLT, Nat.reduceLeDiff, Nat.reduceSub, Nat.reduceEqDiff, Nat.zero_add, Nat.add_zero, k_put_at, Nat.add_sub_cancel, Nat.reduceSubDiff, Nat.add_one_sub_one]
          simp (disch := omega) only [Nat.add_sub_cancel, Nat.reduceSubDiff, Nat.add_one_sub_one] at ih
          refine ⟨fun q3 => by first | exact q3.elim | exact absurd q3 (by omega), fun _ => ⟨trivial, trivial, T_joined ⟨trivial, ?_⟩⟩⟩
          rintro _ rfl
          rw [k_put_put, k_put_at]
          refine ih _ (fun i hi => ?_)
          rw [hg t (by omega), hg (t + 1) (by omega)]
          by_cases hit : i = t
          · subst hit; rw [upd_at, upd_at]
          · rw [upd_ne hit, upd_ne hit]; exact hg i (by omega)
        · have h2 := hk2.1 q2
          simp only [if_pos q2] at ih
          obtain ⟨t, ht⟩ : ∃ t, tpP (σ 18) k = t + 1 := ⟨tpP (σ 18) k - 1, by omega⟩
          rw [ev] at ih
          rw [ht] at ih hg htp ⊢
          simp (disch := omega) only [nI_clamp, nI_add, pk_mul, pk_sub, ↓pk_rem, pk_div, k_mod, k_m1, nI_ltI, nI_leI, nI_eq, k_n0lt, k_nle0, k_0ltn, k_0len, k_n0eq, k_vin, Nat.reduceAdd, Nat.reduceMul, Nat.reduceLT, Nat.reduceLeDiff, Nat.reduceSub, Nat.reduceEqDiff, Nat.zero_add, Nat.add_zero, k_put_at, Nat.add_sub_cancel, Nat.reduceSubDiff, Nat.add_one_sub_one]
          simp (disch := omega) only [Nat.add_sub_cancel, Nat.reduceSubDiff, Nat.add_one_sub_one] at ih
          refine ⟨fun q3 => by first | exact q3.elim | exact absurd q3 (by omega), fun _ => ⟨trivial, ?_, ?_⟩⟩
          all_goals
            intro q4
            refine ⟨trivial, ?_⟩
            rintro _ rfl
            rw [k_put_put]
            refine ih _ (fun i hi => ?_)
            have e9 := hg t (by omega)
            by_cases hit : i = t
            · subst hit; rw [upd_at, upd_at]; simp only [← e9, q4, if_true, if_false]
            · rw [upd_ne hit, upd_ne hit]; exact hg i (by omega)
      · have hlt : σ 18 k < nI 20000 := by rw [k_lei] at q; rw [k_lti]; omega
        simp only [tpP, evP, if_pos hlt] at ih
        rintro _ rfl
        rw [k_put_put, k_put_at]
        refine ih _ (fun i hi => ?_)
        rw [ev]
        by_cases hit : i = tpP (σ 18) k
        · subst hit; rw [upd_at, upd_at]
        · rw [upd_ne hit, upd_ne hit]; exact hg i (by omega)
  have e : σ = k_put σ 19 (σ 19) := by
    funext i; unfold k_put; split
    · next h => rw [h]
    · rfl
  rw [e]
  exact loop m 0 (by omega) _ (fun i hi => absurd hi (Nat.not_lt_zero i))
