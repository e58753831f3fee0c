/-! promises 14, 15: text -/
theorem stk_wf {l : List Nat} {e : Nat} {f : Nat → Int32} (h : stk 0 l = some e) (hf : ∀ j, j < l.length → f j = nI (l.getD j 0)) : ∀ k, k ≤ l.length → stk 0 (l.take k) = some (tpP f k) ∧ ∀ j, j < k → ¬ f j < nI 20000 → (f j = nI 20033 → 1 ≤ tpP f j) ∧ (¬ f j = nI 20033 → 2 ≤ tpP f j)
  | 0, _ => ⟨rfl, fun j hj => absurd hj (Nat.not_lt_zero j)⟩
  | k + 1, hk => by
    obtain ⟨ih, ihw⟩ := stk_wf h hf k (by omega)
    have et : l.take (k + 1) = l.take k ++ [l.getD k 0] := by
      rw [List.take_succ, List.getD_eq_getElem?_getD]
      congr 1
      rw [List.getElem?_eq_getElem (by omega)]
      rfl
    have es : stk 0 (l.take (k + 1)) = stk (tpP f k) [l.getD k 0] := by
      rw [et, stk_app, ih]; rfl
    have ne : stk (tpP f k) [l.getD k 0] ≠ none := by
      intro z
      have : stk 0 (l.take (k + 1) ++ l.drop (k + 1)) = some e := by rw [List.take_append_drop]; exact h
      rw [stk_app, es, z] at this
      cases this
    have ef := hf k (by omega)
    generalize l.getD k 0 = x at es ne ef
    simp only [stk] at es ne
    have step : stk 0 (l.take (k + 1)) = some (tpP f (k + 1)) ∧ (¬ f k < nI 20000 → (f k = nI 20033 → 1 ≤ tpP f k) ∧ (¬ f k = nI 20033 → 2 ≤ tpP f k)) := by
      simp only [tpP]
      by_cases c1 : x < 20000
      · have g : f k < nI 20000 := by rw [ef, nI_ltI (by omega) (by omega)]; exact c1
        rw [if_pos c1] at es
        rw [if_pos g]
        exact ⟨es, fun z => absurd g z⟩
      · rw [if_neg c1] at es ne
        by_cases c2 : x = 20033
        · have g : ¬ f k < nI 20000 := by rw [ef, c2]; decide
          have g2 : f k = nI 20033 := by rw [ef, c2]
          rw [if_pos c2] at es ne
          rw [if_neg g, if_pos g2]
          by_cases c3 : 1 ≤ tpP f k
          · rw [if_pos c3] at es
            exact ⟨es, fun _ => ⟨fun _ => c3, fun z => absurd g2 z⟩⟩
          · rw [if_neg c3] at ne
            exact absurd rfl ne
        · rw [if_neg c2] at es ne
          by_cases c3 : 2 ≤ tpP f k ∧ x < 30000
          · have g : ¬ f k < nI 20000 := by rw [ef, nI_ltI (by omega) (by omega)]; exact c1
            have g2 : ¬ f k = nI 20033 := by rw [ef, nI_eq (by omega) (by omega)]; exact c2
            rw [if_pos c3] at es
            rw [if_neg g, if_neg g2]
            exact ⟨es, fun _ => ⟨fun z => absurd z g2, fun _ => c3.1⟩⟩
          · rw [if_neg c3] at ne
            exact absurd rfl ne
    refine ⟨step.1, fun j hj => ?_⟩
    by_cases ej : j = k
    · subst ej; exact step.2
    · exact ihw j (by omega)
theorem GD.wf {l : List Nat} {f : Nat → Int32} (h : GD l) (hf : ∀ j, j < l.length → f j = nI (l.getD j 0)) : wfS f l.length := fun k hk => (stk_wf (h 0) hf l.length (Nat.le_refl _)).2 k hk
section P57
variable {E E' : KE} {S : Shp} {d d' : Nat} {x1 x2 x3 : Int32} {σ τ : Sg} {Z : Int32 → Int32 → Sg → Sg → Prop} {K : Int32 → Sg → Prop} {L : Sg → Prop}
/-- the reference's text, from the same tape -/
theorem T_Mtext {u n : Nat} {t : Nat → Int32} (hu : u < 2) (hn : n ≤ 60) (hT : RTp τ n t)
    (h1 : (txF t n u).1 = true → ∀ τ', (∀ i, i ≠ 0 → i ≠ 1 → i ≠ 8 → i ≠ 9 → τ' i = τ i) → τ' 0 3 = τ 0 3 → τ' 0 22 = τ 0 22 → (∀ j, j ≠ 8 → (j < 310 + 121 * u ∨ 310 + 121 * u + 121 ≤ j) → τ' 1 j = τ 1 j) → τ' 1 8 = nI 0 → τ' 1 (310 + 121 * u) = nI (txF t n u).2.2.length → (∀ j, j < (txF t n u).2.2.length → encS (τ' 1 (310 + 121 * u + 1 + j)) (τ' 1 (310 + 121 * u + 61 + j)) (nI ((txF t n u).2.2.getD j 0))) → K (nI 1) τ')
    (h2 : ¬ (txF t n u).1 = true → ∀ τ', (∀ i, i ≠ 0 → i ≠ 1 → i ≠ 8 → i ≠ 9 → τ' i = τ i) → τ' 0 3 = τ 0 3 → τ' 0 22 = τ 0 22 → (∀ j, j ≠ 8 → τ' 1 j = τ 1 j) → τ' 1 8 = nI 0 → K ((-10 : Int32) - nI (txF t n u).2.1) τ') : CallI E shR (d + 43) mX11_text [.ref 0, .int (nI u)] τ K := by
  have q : (nI 0).toInt ≤ (nI u).toInt ∧ (nI u).toInt ≤ (nI 1).toInt := k_w01.mpr (by
    have : u = 0 ∨ u = 1 := by omega
    rcases this with rfl | rfl
    · exact Or.inl rfl
    · exact Or.inr rfl)
  refine vc_Md_text (T_in (k_ifnT q ?_))
  intro a1 b1 a2 b2 a3 b3 a4 b4 a5 b5
  have hS : RSok a5 u 0 0 [] a5 := by
    subst b5; subst b4; subst b3; subst b2; subst b1
    exact ⟨⟨fun _ _ _ _ => rfl, rfl, rfl⟩, rfl, rfl, rfl, rfl, rfl, fun j hj => absurd hj (Nat.not_lt_zero j)⟩
  have fr : (∀ i, i ≠ 0 → a5 i = τ i) ∧ a5 0 3 = τ 0 3 ∧ a5 0 22 = τ 0 22 := by
    subst b5; subst b4; subst b3; subst b2; subst b1
    exact ⟨fun i hi => by rw [k_put_ne hi, k_put_ne hi, k_put_ne hi, k_put_ne hi, k_put_ne hi], rfl, rfl⟩
  clear b1 b2 b3 b4 b5 a1 a2 a3 a4
  have hT5 : RTp a5 n t := by
    unfold RTp
    rw [fr.1 1 (by decide)]; exact hT
  have pm := qq_le (t := t) (n := n) hu 5
  have pp := lvl_le (t := t) pm 5 0 (Nat.zero_le _)
  have an := T_any (E := E) hT5 hn pm (T_one (d := d) hu hT5 hn 5 (Nat.le_refl _))
  refine CallN.deep (an a5 0 [] _ hS (Nat.zero_le _) (Nat.le_refl _) ?_) (by omega)
  unfold txF at h1 h2
  generalize lvlF t n (qqF t n u 5) 5 0 = s at h1 h2 pp
  -- a bad end
  have bad : ∀ f τa, RSbad a5 u 0 f τa → (∀ τ', (∀ i, i ≠ 0 → i ≠ 1 → i ≠ 8 → i ≠ 9 → τ' i = τ i) → τ' 0 3 = τ 0 3 → τ' 0 22 = τ 0 22 → (∀ j, j ≠ 8 → τ' 1 j = τ 1 j) → τ' 1 8 = nI 0 → K ((-10 : Int32) - nI f) τ') → ∀ σ16, σ16 = k_put τa 1 (upd (τa 1) (nI 8).toNatClampNeg (nI 0)) → ¬ (σ16 0 15) = 0 ∧ K ((-10 : Int32) - (σ16 0 13)) σ16 := by
    rintro f τa ha hk _ rfl
    rw [k_put_ne (by decide)]
    refine ⟨ha.2.2.2.2.1, ?_⟩
    rw [ha.2.2.2.1]
    have e1 : τa 1 = τ 1 := by rw [ha.1.1 1 (by decide) (by decide) (by decide), fr.1 1 (by decide)]
    refine hk _ (fun i i0 i1 i8 i9 => ?_) ?_ ?_ (fun j hj => ?_) ?_
    · rw [k_put_ne i1, ha.1.1 i i0 i8 i9, fr.1 i i0]
    · rw [k_put_ne (by decide), ha.1.2.1, fr.2.1]
    · rw [k_put_ne (by decide), ha.1.2.2, fr.2.2]
    · rw [k_put_at, show (nI 8).toNatClampNeg = 8 from rfl, upd_ne hj, e1]
    · rw [k_put_at, show (nI 8).toNatClampNeg = 8 from rfl, upd_at]
  refine ⟨fun g σ13 h13 => ?_, fun g σ13 h13 => ?_⟩
  · rw [if_pos g] at h1 h2
    obtain ⟨g1, g2, g3⟩ := pp.1 g
    rw [List.nil_append] at h13
    refine ⟨fun z => absurd h13.2.2.2.2.1 z, fun _ => ⟨vp_in_nI (by decide) (by decide), ?_⟩⟩
    have e8 : σ13 1 (nI 8).toNatClampNeg = nI n := by rw [h13.1.1 1 (by decide) (by decide) (by decide)]; exact hT5.1
    rw [e8, h13.2.2.2.1, nI_leI (by omega) (by omega)]
    refine ⟨fun c => ?_, fun c => ?_⟩
    · rw [if_neg (by omega)] at h1
      rintro _ rfl
      refine ⟨vp_in_nI (by decide) (by decide), ?_⟩
      have hg := h13.good
      generalize k_put σ13 0 (upd (σ13 0) 15 (nI 0)) = τg at hg
      obtain ⟨k0, k1, k2, k3, k4, k5, k6⟩ := hg
      rintro _ rfl
      refine ⟨fun _ => ?_, fun z => absurd k4 z⟩
      have len : s.2.2.length ≤ 60 := by omega
      have eat : nI 310 + nI 121 * nI u = nI (310 + 121 * u) := by rw [pk_mul, nI_add]
      rw [eat]
      refine ⟨vp_in_nI (by omega) (by decide), ?_⟩
      rintro _ rfl
      rw [show (nI (310 + 121 * u)).toNatClampNeg = 310 + 121 * u from nI_clamp (by omega), k_put_at, k_put_put, k_put_ne (by decide : (0 : Nat) ≠ 1), k5, show (nI 8).toNatClampNeg = 8 from rfl]
      have e1 : τg 1 = τ 1 := by rw [k0.1 1 (by decide) (by decide) (by decide), fr.1 1 (by decide)]
      rw [e1]
      generalize hat : 310 + 121 * u = at_ at *
      have hat2 : 310 ≤ at_ ∧ at_ ≤ 431 := by omega
      have loop : ∀ r k, k + r = s.2.2.length → ∀ row, (∀ j, j ≠ 8 → (j < at_ ∨ at_ + 121 ≤ j) → row j = τ 1 j) → row 8 = nI 0 → row at_ = nI s.2.2.length → (∀ j, j < k → encS (row (at_ + 1 + j)) (row (at_ + 61 + j)) (nI (s.2.2.getD j 0))) → WP E shR mX11_text (d + 42 + 1) 119 [some (.ref 0), none, some (.int (nI at_)), some (.int (nI k))] [] (k_put τg 1 row) (k_qi K) := by
        intro r
        induction r with
        | zero =>
          intro k hk row r1 r2 r3 r4
          have e : k = s.2.2.length := by omega
          apply vb_Md_text_119
          rw [k_put_ne (by decide : (0 : Nat) ≠ 1), k5, e]
          refine ⟨fun _ => ?_, fun z => absurd (Int32.le_refl _) z⟩
          refine h1 g _ (fun i i0 i1 i8 i9 => ?_) ?_ ?_ ?_ ?_ ?_ ?_
          · rw [k_put_ne i1, k0.1 i i0 i8 i9, fr.1 i i0]
          · rw [k_put_ne (by decide), k0.2.1, fr.2.1]
          · rw [k_put_ne (by decide), k0.2.2, fr.2.2]
          · intro j j8 hj; rw [k_put_at]; exact r1 j j8 hj
          · rw [k_put_at]; exact r2
          · rw [k_put_at]; exact r3
          · intro j hj; rw [k_put_at]; exact r4 j (by omega)
        | succ r ih =>
          intro k hk row r1 r2 r3 r4
          apply vb_Md_text_119
          rw [k_put_ne (by decide : (0 : Nat) ≠ 1), k5]
          simp (disch := omega) only [nI_clamp, nI_add, pk_mul, pk_sub, ↓pk_rem, pk_div, k_mod, k_m1, nI_ltI, nI_leI, nI_eq, k_n0lt, k_nle0, k_0ltn, k_0len, k_n0eq, k_vin, Nat.reduceAdd, Nat.reduceMul, Nat.reduceLT, Nat.reduceLeDiff, Nat.reduceSub, Nat.reduceEqDiff, Nat.zero_add, Nat.add_zero]
          refine ⟨fun z => absurd z (by omega), fun _ => ⟨by first | exact trivial | exact vp_in_nI (by omega) (by decide), by first | exact trivial | exact vp_in_nI (by omega) (by decide), ?_⟩⟩
          rintro _ rfl
          rw [k_put_put, k_put_at, k_put_ne (by decide : (8 : Nat) ≠ 1)]
          refine ⟨by first | exact trivial | exact vp_in_nI (by omega) (by decide), by first | exact trivial | exact vp_in_nI (by omega) (by decide), ?_⟩
          rintro _ rfl
          rw [k_put_put, k_put_at, k_put_ne (by decide : (9 : Nat) ≠ 1)]
          refine ih (k + 1) (by omega) _ (fun j j8 hj => ?_) ?_ ?_ (fun j hj => ?_)
          · rw [upd_ne (by omega), upd_ne (by omega)]; exact r1 j j8 hj
          · rw [upd_ne (by omega), upd_ne (by omega)]; exact r2
          · rw [upd_ne (by omega), upd_ne (by omega)]; exact r3
          · by_cases e : j = k
            · subst e
              rw [upd_ne (show at_ + 1 + j ≠ at_ + 61 + j by omega), upd_at, upd_at]
              exact k6 j (by omega)
            · rw [upd_ne (by omega), upd_ne (by omega), upd_ne (by omega), upd_ne (by omega)]
              exact r4 j (by omega)
      refine loop s.2.2.length 0 (by omega) _ (fun j j8 hj => ?_) ?_ ?_ (fun j hj => absurd hj (Nat.not_lt_zero j))
      · rw [upd_ne (by omega), upd_ne j8]
      · rw [upd_ne (by omega), upd_at]
      · rw [upd_at]
    · rw [if_pos (by omega)] at h2
      rintro _ rfl
      refine ⟨vp_in_nI (by decide) (by decide), ?_⟩
      intro σ28 e28
      obtain ⟨z1, z2⟩ := bad _ _ (h13.bad (by omega)) (h2 Bool.false_ne_true) σ28 e28
      exact ⟨fun z => absurd z z1, fun _ => z2⟩
  · rw [if_neg g] at h2
    refine ⟨fun _ => ?_, fun z => absurd z h13.2.2.2.2.1⟩
    intro σ14 e14
    refine ⟨vp_in_nI (by decide) (by decide), ?_⟩
    intro σ16 e16
    obtain ⟨z1, z2⟩ := bad _ _ (h13.z e14) (h2 g) σ16 e16
    exact ⟨fun z => absurd z z1, fun _ => z2⟩
end P57
