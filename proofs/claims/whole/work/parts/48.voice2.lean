/-! promises 40, 41: voices, both sides -/
theorem vt_0_0 : bdF (spL 7 0 0) 0 = 10 ∧ abF (spL 7 0 0) = 0 := by decide
theorem vt_0_1 : bdF (spL 7 0 1) 1 = 11 ∧ abF (spL 7 0 1) = 0 := by decide
theorem vt_0_2 : bdF (spL 7 0 2) 2 = 12 ∧ abF (spL 7 0 2) = 0 := by decide
theorem vt_0_3 : bdF (spL 7 0 3) 3 = 13 ∧ abF (spL 7 0 3) = 0 := by decide
theorem vt_1_0 : bdF (spL 7 1 0) 0 = 20 ∧ abF (spL 7 1 0) = 0 := by decide
theorem vt_1_1 : bdF (spL 7 1 1) 1 = 11 ∧ abF (spL 7 1 1) = 0 := by decide
theorem vt_1_2 : bdF (spL 7 1 2) 2 = 12 ∧ abF (spL 7 1 2) = 0 := by decide
theorem vt_1_3 : bdF (spL 7 1 3) 3 = 21 ∧ abF (spL 7 1 3) = 0 := by decide
theorem vt_2_0 : bdF (spL 7 2 0) 0 = 10 ∧ abF (spL 7 2 0) = 0 := by decide
theorem vt_2_1 : bdF (spL 7 2 1) 1 = 30 ∧ abF (spL 7 2 1) = 0 := by decide
theorem vt_2_2 : bdF (spL 7 2 2) 2 = 12 ∧ abF (spL 7 2 2) = 0 := by decide
theorem vt_2_3 : bdF (spL 7 2 3) 3 = 13 ∧ abF (spL 7 2 3) = 0 := by decide
theorem vt_3_0 : bdF (spL 7 3 0) 0 = 10 ∧ abF (spL 7 3 0) = 0 := by decide
theorem vt_3_1 : bdF (spL 7 3 1) 1 = 11 ∧ abF (spL 7 3 1) = 0 := by decide
theorem vt_3_2 : bdF (spL 7 3 2) 2 = 40 ∧ abF (spL 7 3 2) = 0 := by decide
theorem vt_3_3 : bdF (spL 7 3 3) 3 = 13 ∧ abF (spL 7 3 3) = 0 := by decide
theorem vt_4_0 : bdF (spL 7 4 0) 0 = 50 ∧ abF (spL 7 4 0) = 1 := by decide
theorem vt_4_1 : bdF (spL 7 4 1) 1 = 11 ∧ abF (spL 7 4 1) = 0 := by decide
theorem vt_4_2 : bdF (spL 7 4 2) 2 = 51 ∧ abF (spL 7 4 2) = 1 := by decide
theorem vt_4_3 : bdF (spL 7 4 3) 3 = 21 ∧ abF (spL 7 4 3) = 0 := by decide
theorem vt_5_0 : bdF (spL 7 5 0) 0 = 10 ∧ abF (spL 7 5 0) = 0 := by decide
theorem vt_5_1 : bdF (spL 7 5 1) 1 = 60 ∧ abF (spL 7 5 1) = 2 := by decide
theorem vt_5_2 : bdF (spL 7 5 2) 2 = 12 ∧ abF (spL 7 5 2) = 0 := by decide
theorem vt_5_3 : bdF (spL 7 5 3) 3 = 13 ∧ abF (spL 7 5 3) = 0 := by decide
theorem vt_6_0 : bdF (spL 7 6 0) 0 = 70 ∧ abF (spL 7 6 0) = 0 := by decide
theorem vt_6_1 : bdF (spL 7 6 1) 1 = 71 ∧ abF (spL 7 6 1) = 0 := by decide
theorem vt_6_2 : bdF (spL 7 6 2) 2 = 12 ∧ abF (spL 7 6 2) = 0 := by decide
theorem vt_6_3 : bdF (spL 7 6 3) 3 = 13 ∧ abF (spL 7 6 3) = 0 := by decide
section P48
variable {E E' : KE} {S : Shp} {d d' : Nat} {x1 x2 x3 : Int32} {σ τ : Sg} {Z : Int32 → Int32 → Sg → Sg → Prop} {K : Int32 → Sg → Prop} {L : Sg → Prop}
variable {p k : Nat} {m x : Int32}
theorem T_trades (h0 : R31 τ) (hp : p < 6) (hk : k < 7) (ek : τ 1 (10 + 32 * p + 0) = nI k) (em : τ 1 (10 + 32 * p + 1) = m) (h : K (trF (nI p) m k x).2 (aRR τ (trF (nI p) m k x).1)) : CallI E shR (d + 6) mX11_trades [.ref 0, .int (nI p), .int x] τ K := by
  refine vc_Md_trades (T_Mof hp (by decide) ?_)
  rw [ek]
  unfold trF at h
  have cb : ∀ {j : Nat}, j < 100 → nI k = nI j → k = j := fun hj c => (nI_eq (by omega) (by omega)).mp c
  refine ⟨fun c => ?_, fun c => ?_, fun c => ?_, fun n1 n2 n3 => ?_⟩
  · have e := cb (by decide) c
    subst e
    simp only [Nat.reduceEqDiff, if_false, if_true, aRR] at h
    exact T_widowTrades h0 hp hk ek h
  · have e := cb (by decide) c
    subst e
    simp only [Nat.reduceEqDiff, if_false, if_true, aRR] at h
    refine T_begins h0 (T_widowTrades (x := x + nI 1) (k := 5) (p := p) h0.ad1 hp hk ?_ ?_)
    · rw [aR1_ne (by decide) (by decide)]; exact ek
    · exact h
  · have e := cb (by decide) c
    subst e
    simp only [Nat.reduceEqDiff, if_false, if_true, aRR] at h
    refine T_begins h0 ((T_plainTrades (d := d + 1) h0.ad1 hp hk (by rw [aR1_ne (by decide) (by decide)]; exact ek) ?_))
    refine T_Mof hp (by decide) ?_
    rw [aRR_ne (by decide) (by decide), aR1_ne (by decide) (by decide), em]
    exact h
  · rw [if_neg (fun e => n1 (by rw [e])), if_neg (fun e => n2 (by rw [e])), if_neg (fun e => n3 (by rw [e]))] at h
    exact (T_plainTrades (d := d + 1) h0 hp hk ek h)
theorem T_plainAges (h0 : R31 τ) (hp : p < 6) (hk : k < 7) (ek : τ 1 (10 + 32 * p + 0) = nI k) (em : τ 1 (10 + 32 * p + 1) = m) (h : K (paF (nI p) m k x).2 (aRR τ (paF (nI p) m k x).1)) : CallI E shR (d + 7) mX11_plainAges [.ref 0, .int (nI p), .int x] τ K := by
  refine vc_Md_plainAges (T_begins h0 (T_trades (m := m) h0.ad1 hp hk (by rw [aR1_ne (by decide) (by decide)]; exact ek) (by rw [aR1_ne (by decide) (by decide)]; exact em) (T_Mof hp (by decide) ?_)))
  rw [aRR_ne (by decide) (by decide), aR1_ne (by decide) (by decide), em]
  exact h
theorem T_ages (h0 : R31 τ) (hp : p < 6) (hk : k < 7) (ek : τ 1 (10 + 32 * p + 0) = nI k) (em : τ 1 (10 + 32 * p + 1) = m) (h : K (agF (nI p) m k x).2 (aRR τ (agF (nI p) m k x).1)) : CallI E shR (d + 8) mX11_ages [.ref 0, .int (nI p), .int x] τ K := by
  refine vc_Md_ages (T_Mof hp (by decide) ?_)
  rw [ek]
  unfold agF at h
  have cb : ∀ {j : Nat}, j < 100 → nI k = nI j → k = j := fun hj c => (nI_eq (by omega) (by omega)).mp c
  refine ⟨fun c => ?_, fun c => ?_, fun n1 n2 => ?_⟩
  · have e := cb (by decide) c
    subst e
    simp only [Nat.reduceEqDiff, if_false, if_true, aRR] at h
    refine T_begins h0 (T_plainAges (x := x / nI 2) (k := 3) (p := p) (m := m) h0.ad1 hp hk ?_ ?_ ?_)
    · rw [aR1_ne (by decide) (by decide)]; exact ek
    · rw [aR1_ne (by decide) (by decide)]; exact em
    · exact h
  · have e := cb (by decide) c
    subst e
    simp only [Nat.reduceEqDiff, if_false, if_true, aRR] at h
    refine T_begins h0 (T_plainAges (x := x) (k := 4) (p := p) (m := m) h0.ad1 hp hk ?_ ?_ ?_)
    · rw [aR1_ne (by decide) (by decide)]; exact ek
    · rw [aR1_ne (by decide) (by decide)]; exact em
    · exact h
  · rw [if_neg (fun e => n1 (by rw [e])), if_neg (fun e => n2 (by rw [e]))] at h
    exact T_plainAges h0 hp hk ek em h
end P48
theorem sf_0 (p m x : Int32) : ∀ k, k < 7 → sfF p m k 13 k 0 x = ((ywF p k x).1, (ywF p k x).2, false) := by
  intro k hk
  have c : k = 0 ∨ k = 1 ∨ k = 2 ∨ k = 3 ∨ k = 4 ∨ k = 5 ∨ k = 6 := by omega
  rcases c with rfl | rfl | rfl | rfl | rfl | rfl | rfl
  all_goals
    simp only [sfF, vt_0_0, vt_0_1, vt_0_2, vt_0_3, vt_1_0, vt_1_1, vt_1_2, vt_1_3, vt_2_0, vt_2_1, vt_2_2, vt_2_3, vt_3_0, vt_3_1, vt_3_2, vt_3_3, vt_4_0, vt_4_1, vt_4_2, vt_4_3, vt_5_0, vt_5_1, vt_5_2, vt_5_3, vt_6_0, vt_6_1, vt_6_2, vt_6_3, ↓reduceIte, Nat.reduceEqDiff]
    rfl
theorem zs_y (y : Int32) : nI 0 - y = -y := by rw [show nI 0 = 0 from rfl, Int32.zero_sub]
theorem sf_1 (p m x : Int32) : ∀ k, k < 7 → sfF p m k 13 k 1 x = ((trF p m k x).1, (trF p m k x).2, false) := by
  intro k hk
  have c : k = 0 ∨ k = 1 ∨ k = 2 ∨ k = 3 ∨ k = 4 ∨ k = 5 ∨ k = 6 := by omega
  rcases c with rfl | rfl | rfl | rfl | rfl | rfl | rfl
  all_goals
    simp only [sfF, vt_0_0, vt_0_1, vt_0_2, vt_0_3, vt_1_0, vt_1_1, vt_1_2, vt_1_3, vt_2_0, vt_2_1, vt_2_2, vt_2_3, vt_3_0, vt_3_1, vt_3_2, vt_3_3, vt_4_0, vt_4_1, vt_4_2, vt_4_3, vt_5_0, vt_5_1, vt_5_2, vt_5_3, vt_6_0, vt_6_1, vt_6_2, vt_6_3, ↓reduceIte, Nat.reduceEqDiff, zs_y]
    rfl
theorem sf_2 (p m x : Int32) : ∀ k, k < 7 → sfF p m k 13 k 2 x = ((agF p m k x).1, (agF p m k x).2, false) := by
  intro k hk
  have c : k = 0 ∨ k = 1 ∨ k = 2 ∨ k = 3 ∨ k = 4 ∨ k = 5 ∨ k = 6 := by omega
  rcases c with rfl | rfl | rfl | rfl | rfl | rfl | rfl
  all_goals
    simp only [sfF, vt_0_0, vt_0_1, vt_0_2, vt_0_3, vt_1_0, vt_1_1, vt_1_2, vt_1_3, vt_2_0, vt_2_1, vt_2_2, vt_2_3, vt_3_0, vt_3_1, vt_3_2, vt_3_3, vt_4_0, vt_4_1, vt_4_2, vt_4_3, vt_5_0, vt_5_1, vt_5_2, vt_5_3, vt_6_0, vt_6_1, vt_6_2, vt_6_3, ↓reduceIte, Nat.reduceEqDiff, zs_y]
    rfl
theorem sf_3 (p m x : Int32) : ∀ k, k < 7 → sfF p m k 13 k 3 x = if m - p = 0 then (if k = 1 ∨ k = 4 then ([21, 13], nI 0, true) else ([13], nI 0, true)) else (if k = 1 ∨ k = 4 then (21 :: 13 :: (trF p m k (nI 1)).1, x / (m - p) + (trF p m k (nI 1)).2, false) else ([13], x / (m - p), false)) := by
  intro k hk
  have c : k = 0 ∨ k = 1 ∨ k = 2 ∨ k = 3 ∨ k = 4 ∨ k = 5 ∨ k = 6 := by omega
  by_cases c2 : m - p = 0
  · rcases c with rfl | rfl | rfl | rfl | rfl | rfl | rfl
    all_goals
      simp only [sfF, vt_0_0, vt_0_1, vt_0_2, vt_0_3, vt_1_0, vt_1_1, vt_1_2, vt_1_3, vt_2_0, vt_2_1, vt_2_2, vt_2_3, vt_3_0, vt_3_1, vt_3_2, vt_3_3, vt_4_0, vt_4_1, vt_4_2, vt_4_3, vt_5_0, vt_5_1, vt_5_2, vt_5_3, vt_6_0, vt_6_1, vt_6_2, vt_6_3, ↓reduceIte, Nat.reduceEqDiff, zs_y, c2, or_false, or_true, false_or, true_or]
  · rcases c with rfl | rfl | rfl | rfl | rfl | rfl | rfl
    all_goals
      simp only [sfF, vt_0_0, vt_0_1, vt_0_2, vt_0_3, vt_1_0, vt_1_1, vt_1_2, vt_1_3, vt_2_0, vt_2_1, vt_2_2, vt_2_3, vt_3_0, vt_3_1, vt_3_2, vt_3_3, vt_4_0, vt_4_1, vt_4_2, vt_4_3, vt_5_0, vt_5_1, vt_5_2, vt_5_3, vt_6_0, vt_6_1, vt_6_2, vt_6_3, ↓reduceIte, Nat.reduceEqDiff, zs_y, c2, or_false, or_true, false_or, true_or, Bool.false_eq_true]
      first | done | rfl
