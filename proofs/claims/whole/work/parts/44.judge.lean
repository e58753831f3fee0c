/-! promises 36, 37: judge, fits -/
section P44
variable {E E' : KE} {S : Shp} {d d' : Nat} {x1 x2 x3 : Int32} {σ τ : Sg} {Z : Int32 → Int32 → Sg → Sg → Prop} {K : Int32 → Sg → Prop} {L : Sg → Prop}
theorem P_judge (hR : RR σ τ) (h : ∀ v σ' τ', RR σ' τ' → Z v v σ' τ') : CallI E shC (d + 4) mX10_judge [.ref 0, .int x1] σ (fun v σ' => CallI E' shR (d' + 4) mX11_judge [.ref 0, .int x1] τ (fun w τ' => Z v w σ' τ')) := by
  have hS := hR.2.2.2.1
  have hE : RE σ := ⟨_, hR.rw⟩
  obtain ⟨e6, -⟩ := nT_eq hE.c
  have e0 : τ 1 0 = nI (nT σ) := hR.rw.rc.1.trans e6
  have hT := hR.1.2
  have ne1 : ¬ (-1000000001 : Int32) = 0 := by decide
  have ne2 : ¬ (-1000000002 : Int32) = 0 := by decide
  refine vc_SD_judge (T_isSheet (k_ifn (fun q => ?_) (fun q => T_err (by decide) ?_)))
  rotate_left
  · refine vc_Md_judge (T_notThere (fun _ => ⟨fun z => absurd z ne1, fun _ => T_Merr1 (h _ _ _ (hR.err (by decide)))⟩) (fun t ht et _ => absurd ⟨t, ht, et⟩ q) (fun t ht et _ => absurd ⟨t, ht, et⟩ q))
  obtain ⟨s, hs, rfl⟩ := id q
  obtain ⟨b1, b2, ⟨n, hn, b3⟩⟩ := hS.1 s hs
  have sc : ∀ {t : Nat}, t < 4 → nI s = nI t → t = s := fun ht e => ((nI_eq (by omega) (by omega)).mp e).symm
  refine T_isMissing hs (k_if (fun q2 => ?_) (fun q2 => T_err (by decide) ?_))
  rotate_left
  · refine vc_Md_judge (T_notThere (fun z => absurd q z) (fun t ht et z => ⟨fun z => absurd z ne2, fun _ => T_Merr2 (h _ _ _ (hR.err (by decide)))⟩) (fun t ht et z => absurd (by rw [sc ht et, b1]; exact q2) z))
  have b4 : τ 6 s = nI n := b2.trans b3
  rw [show (nI s).toNatClampNeg = s from nI_clamp (by omega), b3]
  refine ⟨vp_in_nI hs (by decide), ?_⟩
  have key : ∀ r k, k + r = n → WP E shC mX10_judge (d + 3 + 1) 42 [some (.ref 0), some (.int (nI s)), some (.int (nI n)), some (.int (nI k))] [] σ (k_qi fun v σ' => WP E' shR mX11_judge (d' + 3 + 1) 18 [some (.ref 0), some (.int (nI s)), none, some (.int (nI k))] [] τ (k_qi fun w τ' => Z v w σ' τ')) := by
    intro r
    induction r with
    | zero =>
      intro k hk
      have e : k = n := by omega
      subst e
      apply vb_SD_judge_42
      refine ⟨fun _ => ?_, fun z => absurd (Int32.le_refl _) z⟩
      apply vb_Md_judge_18
      simp (disch := omega) only [nI_clamp, nI_add, pk_mul, pk_sub, ↓pk_rem, pk_div, k_mod, k_m1, nI_ltI, nI_leI, nI_eq, k_n0lt, k_nle0, k_0ltn, k_0len, k_n0eq, k_vin, Nat.reduceAdd, Nat.reduceMul, Nat.reduceLT, Nat.reduceLeDiff, Nat.reduceSub, Nat.reduceEqDiff, Nat.zero_add, Nat.add_zero, b4]
      exact ⟨trivial, fun _ => h _ _ _ hR, fun z => absurd (by omega) z⟩
    | succ r ih =>
      intro k hk
      have ih := ih (k + 1) (by omega)
      have hq : (nT σ + k) % 28 < 28 := Nat.mod_lt _ (by decide)
      have e7 : τ 7 (24 * s + k) = σ 62 (24 * s + k) := hS.2 _ (by omega)
      apply vb_SD_judge_42
      rw [nI_leI (by omega) (by omega), nI_add]
      refine ⟨fun z => absurd z (by omega), fun _ => T_numberAt hs (by omega) (T_dayIn hE.c (by omega) (T_howManyUp hE hq ⟨fun c => ?_, fun c => ?_⟩))⟩
      · refine WP.monoI ih (fun v σ' hk => ?_)
        apply vb_Md_judge_18
        simp (disch := omega) only [nI_clamp, nI_add, pk_mul, pk_sub, ↓pk_rem, pk_div, k_mod, k_m1, nI_ltI, nI_leI, nI_eq, k_n0lt, k_nle0, k_0ltn, k_0len, k_n0eq, k_vin, Nat.reduceAdd, Nat.reduceMul, Nat.reduceLT, Nat.reduceLeDiff, Nat.reduceSub, Nat.reduceEqDiff, Nat.zero_add, Nat.add_zero, b4, e0]
        refine ⟨trivial, fun z => absurd z (by omega), fun _ => ⟨trivial, trivial, T_manyUp hR.rw hq ?_⟩⟩
        rw [e7]
        exact ⟨fun z => absurd c z, fun _ => hk⟩
      · apply vb_Md_judge_18
        simp (disch := omega) only [nI_clamp, nI_add, pk_mul, pk_sub, ↓pk_rem, pk_div, k_mod, k_m1, nI_ltI, nI_leI, nI_eq, k_n0lt, k_nle0, k_0ltn, k_0len, k_n0eq, k_vin, Nat.reduceAdd, Nat.reduceMul, Nat.reduceLT, Nat.reduceLeDiff, Nat.reduceSub, Nat.reduceEqDiff, Nat.zero_add, Nat.add_zero, b4, e0]
        refine ⟨trivial, fun z => absurd z (by omega), fun _ => ⟨trivial, trivial, T_manyUp hR.rw hq ?_⟩⟩
        rw [e7]
        exact ⟨fun _ => h _ _ _ hR, fun z => absurd z c⟩
  refine WP.monoI (key n 0 (by omega)) (fun v σ' hk => vc_Md_judge (T_notThere (fun z => absurd q z) (fun t ht et z => absurd (by rw [sc ht et] at z; rw [← b1]; exact z) q2) (fun t ht et z => ⟨fun _ => hk, fun z => absurd rfl z⟩)))
/-- somebody's days are as a sheet says, so far -/
def taF (σ : Sg) (s p k : Nat) : Prop := ∀ j, j < k → lvF σ p ((nT σ + j) % 28) = σ 62 (24 * s + j)
theorem T_livesAsTold {s p n : Nat} (hE : RE σ) (hT : nT σ < 10000) (hp : p < 6) (hs : s < 4) (hn : n < 25) (b3 : σ 61 s = nI n) (h : K (k_b (taF σ s p n)) σ) : CallI E shC (d + 3) mX10_livesAsTold [.ref 0, .int (nI p), .int (nI s)] σ K := by
  refine vc_SD_livesAsTold ?_
  have loop : ∀ r k, k + r = n → taF σ s p k → WP E shC mX10_livesAsTold (d + 2 + 1) 2 [some (.ref 0), some (.int (nI p)), some (.int (nI s)), some (.int (nI k))] [] σ (k_qi K) := by
    intro r
    induction r with
    | zero =>
      intro k hk ht
      have e : k = n := by omega
      subst e
      apply vb_SD_livesAsTold_2
      simp (disch := omega) only [nI_clamp, nI_add, pk_mul, pk_sub, ↓pk_rem, pk_div, k_mod, k_m1, nI_ltI, nI_leI, nI_eq, k_n0lt, k_nle0, k_0ltn, k_0len, k_n0eq, k_vin, Nat.reduceAdd, Nat.reduceMul, Nat.reduceLT, Nat.reduceLeDiff, Nat.reduceSub, Nat.reduceEqDiff, Nat.zero_add, Nat.add_zero, b3]
      rw [k_bT ht] at h
      exact ⟨trivial, fun _ => h, fun z => absurd (by omega) z⟩
    | succ r ih =>
      intro k hk ht
      have hq : (nT σ + k) % 28 < 28 := Nat.mod_lt _ (by decide)
      apply vb_SD_livesAsTold_2
      simp (disch := omega) only [nI_clamp, nI_add, pk_mul, pk_sub, ↓pk_rem, pk_div, k_mod, k_m1, nI_ltI, nI_leI, nI_eq, k_n0lt, k_nle0, k_0ltn, k_0len, k_n0eq, k_vin, Nat.reduceAdd, Nat.reduceMul, Nat.reduceLT, Nat.reduceLeDiff, Nat.reduceSub, Nat.reduceEqDiff, Nat.zero_add, Nat.add_zero, b3]
      refine ⟨trivial, fun z => absurd z (by omega), fun _ => T_dayIn hE.c (by omega) (T_livesOf hp hq (T_numberAt hs (by omega) ⟨fun c => ?_, fun c => ?_⟩))⟩
      · exact ih (k + 1) (by omega) (fun j hj => by
          by_cases e : j = k
          · rw [e]; exact c
          · exact ht j (by omega))
      · rw [k_bF (fun z => c (z k (by omega)))] at h
        exact h
  exact loop n 0 (by omega) (fun j hj => absurd hj (Nat.not_lt_zero j))
noncomputable def ftF (σ : Sg) (s n : Nat) : Nat → Int32
  | 0 => nI 0
  | p + 1 => @ite Int32 (taF σ s p n) (Classical.propDecidable _) (ftF σ s n p ||| ((nI 1) <<< ((nI p) &&& 31))) (ftF σ s n p)
theorem P_fits (hR : RR σ τ) (h : ∀ v σ' τ', RR σ' τ' → Z v v σ' τ') : CallI E shC (d + 4) mX10_fits [.ref 0, .int x1] σ (fun v σ' => CallI E' shR (d' + 4) mX11_fits [.ref 0, .int x1] τ (fun w τ' => Z v w σ' τ')) := by
  have hS := hR.2.2.2.1
  have hE : RE σ := ⟨_, hR.rw⟩
  have hRA := hR.rw.ra
  obtain ⟨e6, -⟩ := nT_eq hE.c
  have e0 : τ 1 0 = nI (nT σ) := hR.rw.rc.1.trans e6
  have hT := hR.1.2
  have hnp := nP_le hE.a
  have ep : σ 2 5 = nI (nP σ) := (cl_lt hE.a.1 (by decide)).2
  have er : τ 1 2 = nI (nP σ) := hRA.1.trans ep
  have ne1 : ¬ (-1000000001 : Int32) = 0 := by decide
  have ne2 : ¬ (-1000000002 : Int32) = 0 := by decide
  refine vc_SD_fits (T_isSheet (k_ifn (fun q => ?_) (fun q => T_err (by decide) ?_)))
  rotate_left
  · refine vc_Md_fits (T_notThere (fun _ => ⟨fun z => absurd z ne1, fun _ => T_Merr1 (h _ _ _ (hR.err (by decide)))⟩) (fun t ht et _ => absurd ⟨t, ht, et⟩ q) (fun t ht et _ => absurd ⟨t, ht, et⟩ q))
  obtain ⟨s, hs, rfl⟩ := id q
  obtain ⟨b1, b2, ⟨n, hn, b3⟩⟩ := hS.1 s hs
  have sc : ∀ {t : Nat}, t < 4 → nI s = nI t → t = s := fun ht e => ((nI_eq (by omega) (by omega)).mp e).symm
  refine T_isMissing hs (k_if (fun q2 => ?_) (fun q2 => T_err (by decide) ?_))
  rotate_left
  · refine vc_Md_fits (T_notThere (fun z => absurd q z) (fun t ht et z => ⟨fun z => absurd z ne2, fun _ => T_Merr2 (h _ _ _ (hR.err (by decide)))⟩) (fun t ht et z => absurd (by rw [sc ht et, b1]; exact q2) z))
  have b4 : τ 6 s = nI n := b2.trans b3
  have ref : CallI E' shR (d' + 4) mX11_fits [.ref 0, .int (nI s)] τ (fun w τ' => Z (ftF σ s n (nP σ)) w σ τ') := by
    refine vc_Md_fits (T_notThere (fun z => absurd q z) (fun t ht et z => absurd (by rw [sc ht et] at z; rw [← b1]; exact z) q2) (fun t ht et z => ⟨fun _ => ?_, fun z => absurd rfl z⟩))
    have inner : ∀ (p : Nat), p < nP σ → (WP E' shR mX11_fits (d' + 3 + 1) 21 [some (.ref 0), some (.int (nI s)), none, some (.int (ftF σ s n (p + 1))), some (.int (nI (p + 1))), none, none] [] τ (k_qi fun w τ' => Z (ftF σ s n (nP σ)) w σ τ')) → ∀ r k, k + r = n → WP E' shR mX11_fits (d' + 3 + 1) 38 [some (.ref 0), some (.int (nI s)), none, some (.int (ftF σ s n p)), some (.int (nI p)), some (.int (k_b (taF σ s p k))), some (.int (nI k))] [] τ (k_qi fun w τ' => Z (ftF σ s n (nP σ)) w σ τ') := by
      intro p hp out r
      induction r with
      | zero =>
        intro k hk
        have e : k = n := by omega
        subst e
        simp only [ftF] at out
        apply vb_Md_fits_38
        simp (disch := omega) only [nI_clamp, nI_add, pk_mul, pk_sub, ↓pk_rem, pk_div, k_mod, k_m1, nI_ltI, nI_leI, nI_eq, k_n0lt, k_nle0, k_0ltn, k_0len, k_n0eq, k_vin, Nat.reduceAdd, Nat.reduceMul, Nat.reduceLT, Nat.reduceLeDiff, Nat.reduceSub, Nat.reduceEqDiff, Nat.zero_add, Nat.add_zero, b4]
        refine ⟨trivial, fun _ => k_if (fun c => ?_) (fun c => ?_), fun z => absurd (by omega) z⟩
        · rw [if_neg c] at out
          rw [show nI 0 = 0 from rfl, Int32.or_zero]
          exact out
        · rw [if_pos c] at out
          exact out
      | succ r ih =>
        intro k hk
        have ih := ih (k + 1) (by omega)
        have hq : (nT σ + k) % 28 < 28 := Nat.mod_lt _ (by decide)
        have e7 : τ 7 (24 * s + k) = σ 62 (24 * s + k) := hS.2 _ (by omega)
        apply vb_Md_fits_38
        simp (disch := omega) only [nI_clamp, nI_add, pk_mul, pk_sub, ↓pk_rem, pk_div, k_mod, k_m1, nI_ltI, nI_leI, nI_eq, k_n0lt, k_nle0, k_0ltn, k_0len, k_n0eq, k_vin, Nat.reduceAdd, Nat.reduceMul, Nat.reduceLT, Nat.reduceLeDiff, Nat.reduceSub, Nat.reduceEqDiff, Nat.zero_add, Nat.add_zero, b4, e0]
        refine ⟨trivial, fun z => absurd z (by omega), fun _ => k_if (fun c => ?_) (fun c => ⟨trivial, trivial, T_MlivesOf hRA (by omega) hq ?_⟩)⟩
        · rw [k_bF (fun z => c (fun j hj => z j (by omega)))] at ih
          exact ih
        · rw [e7]
          refine ⟨fun c2 => ?_, fun c2 => ?_⟩
          · rw [k_bF (fun z => c2 (z k (by omega)).symm)] at ih
            exact ih
          · have tt : taF σ s p (k + 1) := fun j hj => by
              by_cases e : j = k
              · rw [e]; exact c2.symm
              · exact c j (by omega)
            rw [k_bT tt] at ih
            exact ih
    have outer : ∀ r p, p + r = nP σ → WP E' shR mX11_fits (d' + 3 + 1) 21 [some (.ref 0), some (.int (nI s)), none, some (.int (ftF σ s n p)), some (.int (nI p)), none, none] [] τ (k_qi fun w τ' => Z (ftF σ s n (nP σ)) w σ τ') := by
      intro r
      induction r with
      | zero =>
        intro p hp
        have e : p = nP σ := by omega
        apply vb_Md_fits_21
        simp (disch := omega) only [nI_clamp, nI_add, pk_mul, pk_sub, ↓pk_rem, pk_div, k_mod, k_m1, nI_ltI, nI_leI, nI_eq, k_n0lt, k_nle0, k_0ltn, k_0len, k_n0eq, k_vin, Nat.reduceAdd, Nat.reduceMul, Nat.reduceLT, Nat.reduceLeDiff, Nat.reduceSub, Nat.reduceEqDiff, Nat.zero_add, Nat.add_zero, er]
        rw [e]
        exact ⟨trivial, fun _ => h _ _ _ hR, fun z => absurd (by omega) z⟩
      | succ r ih =>
        intro p hp
        have ih := ih (p + 1) (by omega)
        apply vb_Md_fits_21
        simp (disch := omega) only [nI_clamp, nI_add, pk_mul, pk_sub, ↓pk_rem, pk_div, k_mod, k_m1, nI_ltI, nI_leI, nI_eq, k_n0lt, k_nle0, k_0ltn, k_0len, k_n0eq, k_vin, Nat.reduceAdd, Nat.reduceMul, Nat.reduceLT, Nat.reduceLeDiff, Nat.reduceSub, Nat.reduceEqDiff, Nat.zero_add, Nat.add_zero, er]
        refine ⟨trivial, fun z => absurd z (by omega), fun _ => ?_⟩
        have z := inner p (by omega) ih n 0 (by omega)
        have tt : taF σ s p 0 := fun j hj => absurd hj (Nat.not_lt_zero j)
        rw [k_bT tt] at z
        exact z
    exact outer (nP σ) 0 (by omega)
  have loop : ∀ r p, p + r = nP σ → WP E shC mX10_fits (d + 3 + 1) 34 [some (.ref 0), some (.int (nI s)), some (.int (ftF σ s n p)), some (.int (nI p))] [] σ (k_qi fun v σ' => CallI E' shR (d' + 4) mX11_fits [.ref 0, .int (nI s)] τ (fun w τ' => Z v w σ' τ')) := by
    intro r
    induction r with
    | zero =>
      intro p hp
      have e : p = nP σ := by omega
      apply vb_SD_fits_34
      rw [ep, e]
      exact ⟨fun _ => ref, fun z => absurd (Int32.le_refl _) z⟩
    | succ r ih =>
      intro p hp
      have ih := ih (p + 1) (by omega)
      simp only [ftF] at ih
      apply vb_SD_fits_34
      rw [ep, nI_leI (by omega) (by omega), nI_add]
      refine ⟨fun z => absurd z (by omega), fun _ => T_livesAsTold hE hT (by omega) hs hn b3 (k_if (fun c => ?_) (fun c => ?_))⟩
      · rw [if_neg c] at ih; exact ih
      · rw [if_pos c] at ih; exact ih
  exact loop (nP σ) 0 (by omega)
end P44
