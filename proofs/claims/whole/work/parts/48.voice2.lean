/-! promises 40, 41: voices, both sides -/
theorem sp_0_0 : spL 7 0 0 = (if 0 = 0 then (if 0 = 1 ∨ 0 = 4 ∨ 0 = 6 then 0 else 0) else if 0 = 1 then (if 0 = 2 ∨ 0 = 5 ∨ 0 = 6 then 0 else 0) else if 0 = 2 then (if 0 = 3 ∨ 0 = 4 then 0 else 0) else if 0 = 1 then 1 else if 0 = 4 then 1 else 0) := by decide
theorem sp_0_1 : spL 7 0 1 = (if 1 = 0 then (if 0 = 1 ∨ 0 = 4 ∨ 0 = 6 then 0 else 0) else if 1 = 1 then (if 0 = 2 ∨ 0 = 5 ∨ 0 = 6 then 0 else 0) else if 1 = 2 then (if 0 = 3 ∨ 0 = 4 then 0 else 0) else if 0 = 1 then 1 else if 0 = 4 then 1 else 0) := by decide
theorem sp_0_2 : spL 7 0 2 = (if 2 = 0 then (if 0 = 1 ∨ 0 = 4 ∨ 0 = 6 then 0 else 0) else if 2 = 1 then (if 0 = 2 ∨ 0 = 5 ∨ 0 = 6 then 0 else 0) else if 2 = 2 then (if 0 = 3 ∨ 0 = 4 then 0 else 0) else if 0 = 1 then 1 else if 0 = 4 then 1 else 0) := by decide
theorem sp_0_3 : spL 7 0 3 = (if 3 = 0 then (if 0 = 1 ∨ 0 = 4 ∨ 0 = 6 then 0 else 0) else if 3 = 1 then (if 0 = 2 ∨ 0 = 5 ∨ 0 = 6 then 0 else 0) else if 3 = 2 then (if 0 = 3 ∨ 0 = 4 then 0 else 0) else if 0 = 1 then 1 else if 0 = 4 then 1 else 0) := by decide
theorem sp_1_0 : spL 7 1 0 = (if 0 = 0 then (if 1 = 1 ∨ 1 = 4 ∨ 1 = 6 then 1 else 0) else if 0 = 1 then (if 1 = 2 ∨ 1 = 5 ∨ 1 = 6 then 1 else 0) else if 0 = 2 then (if 1 = 3 ∨ 1 = 4 then 1 else 0) else if 1 = 1 then 1 else if 1 = 4 then 1 else 0) := by decide
theorem sp_1_1 : spL 7 1 1 = (if 1 = 0 then (if 1 = 1 ∨ 1 = 4 ∨ 1 = 6 then 1 else 0) else if 1 = 1 then (if 1 = 2 ∨ 1 = 5 ∨ 1 = 6 then 1 else 0) else if 1 = 2 then (if 1 = 3 ∨ 1 = 4 then 1 else 0) else if 1 = 1 then 1 else if 1 = 4 then 1 else 0) := by decide
theorem sp_1_2 : spL 7 1 2 = (if 2 = 0 then (if 1 = 1 ∨ 1 = 4 ∨ 1 = 6 then 1 else 0) else if 2 = 1 then (if 1 = 2 ∨ 1 = 5 ∨ 1 = 6 then 1 else 0) else if 2 = 2 then (if 1 = 3 ∨ 1 = 4 then 1 else 0) else if 1 = 1 then 1 else if 1 = 4 then 1 else 0) := by decide
theorem sp_1_3 : spL 7 1 3 = (if 3 = 0 then (if 1 = 1 ∨ 1 = 4 ∨ 1 = 6 then 1 else 0) else if 3 = 1 then (if 1 = 2 ∨ 1 = 5 ∨ 1 = 6 then 1 else 0) else if 3 = 2 then (if 1 = 3 ∨ 1 = 4 then 1 else 0) else if 1 = 1 then 1 else if 1 = 4 then 1 else 0) := by decide
theorem sp_2_0 : spL 7 2 0 = (if 0 = 0 then (if 2 = 1 ∨ 2 = 4 ∨ 2 = 6 then 2 else 0) else if 0 = 1 then (if 2 = 2 ∨ 2 = 5 ∨ 2 = 6 then 2 else 0) else if 0 = 2 then (if 2 = 3 ∨ 2 = 4 then 2 else 0) else if 2 = 1 then 1 else if 2 = 4 then 1 else 0) := by decide
theorem sp_2_1 : spL 7 2 1 = (if 1 = 0 then (if 2 = 1 ∨ 2 = 4 ∨ 2 = 6 then 2 else 0) else if 1 = 1 then (if 2 = 2 ∨ 2 = 5 ∨ 2 = 6 then 2 else 0) else if 1 = 2 then (if 2 = 3 ∨ 2 = 4 then 2 else 0) else if 2 = 1 then 1 else if 2 = 4 then 1 else 0) := by decide
theorem sp_2_2 : spL 7 2 2 = (if 2 = 0 then (if 2 = 1 ∨ 2 = 4 ∨ 2 = 6 then 2 else 0) else if 2 = 1 then (if 2 = 2 ∨ 2 = 5 ∨ 2 = 6 then 2 else 0) else if 2 = 2 then (if 2 = 3 ∨ 2 = 4 then 2 else 0) else if 2 = 1 then 1 else if 2 = 4 then 1 else 0) := by decide
theorem sp_2_3 : spL 7 2 3 = (if 3 = 0 then (if 2 = 1 ∨ 2 = 4 ∨ 2 = 6 then 2 else 0) else if 3 = 1 then (if 2 = 2 ∨ 2 = 5 ∨ 2 = 6 then 2 else 0) else if 3 = 2 then (if 2 = 3 ∨ 2 = 4 then 2 else 0) else if 2 = 1 then 1 else if 2 = 4 then 1 else 0) := by decide
theorem sp_3_0 : spL 7 3 0 = (if 0 = 0 then (if 3 = 1 ∨ 3 = 4 ∨ 3 = 6 then 3 else 0) else if 0 = 1 then (if 3 = 2 ∨ 3 = 5 ∨ 3 = 6 then 3 else 0) else if 0 = 2 then (if 3 = 3 ∨ 3 = 4 then 3 else 0) else if 3 = 1 then 1 else if 3 = 4 then 1 else 0) := by decide
theorem sp_3_1 : spL 7 3 1 = (if 1 = 0 then (if 3 = 1 ∨ 3 = 4 ∨ 3 = 6 then 3 else 0) else if 1 = 1 then (if 3 = 2 ∨ 3 = 5 ∨ 3 = 6 then 3 else 0) else if 1 = 2 then (if 3 = 3 ∨ 3 = 4 then 3 else 0) else if 3 = 1 then 1 else if 3 = 4 then 1 else 0) := by decide
theorem sp_3_2 : spL 7 3 2 = (if 2 = 0 then (if 3 = 1 ∨ 3 = 4 ∨ 3 = 6 then 3 else 0) else if 2 = 1 then (if 3 = 2 ∨ 3 = 5 ∨ 3 = 6 then 3 else 0) else if 2 = 2 then (if 3 = 3 ∨ 3 = 4 then 3 else 0) else if 3 = 1 then 1 else if 3 = 4 then 1 else 0) := by decide
theorem sp_3_3 : spL 7 3 3 = (if 3 = 0 then (if 3 = 1 ∨ 3 = 4 ∨ 3 = 6 then 3 else 0) else if 3 = 1 then (if 3 = 2 ∨ 3 = 5 ∨ 3 = 6 then 3 else 0) else if 3 = 2 then (if 3 = 3 ∨ 3 = 4 then 3 else 0) else if 3 = 1 then 1 else if 3 = 4 then 1 else 0) := by decide
theorem sp_4_0 : spL 7 4 0 = (if 0 = 0 then (if 4 = 1 ∨ 4 = 4 ∨ 4 = 6 then 4 else 0) else if 0 = 1 then (if 4 = 2 ∨ 4 = 5 ∨ 4 = 6 then 4 else 0) else if 0 = 2 then (if 4 = 3 ∨ 4 = 4 then 4 else 0) else if 4 = 1 then 1 else if 4 = 4 then 1 else 0) := by decide
theorem sp_4_1 : spL 7 4 1 = (if 1 = 0 then (if 4 = 1 ∨ 4 = 4 ∨ 4 = 6 then 4 else 0) else if 1 = 1 then (if 4 = 2 ∨ 4 = 5 ∨ 4 = 6 then 4 else 0) else if 1 = 2 then (if 4 = 3 ∨ 4 = 4 then 4 else 0) else if 4 = 1 then 1 else if 4 = 4 then 1 else 0) := by decide
theorem sp_4_2 : spL 7 4 2 = (if 2 = 0 then (if 4 = 1 ∨ 4 = 4 ∨ 4 = 6 then 4 else 0) else if 2 = 1 then (if 4 = 2 ∨ 4 = 5 ∨ 4 = 6 then 4 else 0) else if 2 = 2 then (if 4 = 3 ∨ 4 = 4 then 4 else 0) else if 4 = 1 then 1 else if 4 = 4 then 1 else 0) := by decide
theorem sp_4_3 : spL 7 4 3 = (if 3 = 0 then (if 4 = 1 ∨ 4 = 4 ∨ 4 = 6 then 4 else 0) else if 3 = 1 then (if 4 = 2 ∨ 4 = 5 ∨ 4 = 6 then 4 else 0) else if 3 = 2 then (if 4 = 3 ∨ 4 = 4 then 4 else 0) else if 4 = 1 then 1 else if 4 = 4 then 1 else 0) := by decide
theorem sp_5_0 : spL 7 5 0 = (if 0 = 0 then (if 5 = 1 ∨ 5 = 4 ∨ 5 = 6 then 5 else 0) else if 0 = 1 then (if 5 = 2 ∨ 5 = 5 ∨ 5 = 6 then 5 else 0) else if 0 = 2 then (if 5 = 3 ∨ 5 = 4 then 5 else 0) else if 5 = 1 then 1 else if 5 = 4 then 1 else 0) := by decide
theorem sp_5_1 : spL 7 5 1 = (if 1 = 0 then (if 5 = 1 ∨ 5 = 4 ∨ 5 = 6 then 5 else 0) else if 1 = 1 then (if 5 = 2 ∨ 5 = 5 ∨ 5 = 6 then 5 else 0) else if 1 = 2 then (if 5 = 3 ∨ 5 = 4 then 5 else 0) else if 5 = 1 then 1 else if 5 = 4 then 1 else 0) := by decide
theorem sp_5_2 : spL 7 5 2 = (if 2 = 0 then (if 5 = 1 ∨ 5 = 4 ∨ 5 = 6 then 5 else 0) else if 2 = 1 then (if 5 = 2 ∨ 5 = 5 ∨ 5 = 6 then 5 else 0) else if 2 = 2 then (if 5 = 3 ∨ 5 = 4 then 5 else 0) else if 5 = 1 then 1 else if 5 = 4 then 1 else 0) := by decide
theorem sp_5_3 : spL 7 5 3 = (if 3 = 0 then (if 5 = 1 ∨ 5 = 4 ∨ 5 = 6 then 5 else 0) else if 3 = 1 then (if 5 = 2 ∨ 5 = 5 ∨ 5 = 6 then 5 else 0) else if 3 = 2 then (if 5 = 3 ∨ 5 = 4 then 5 else 0) else if 5 = 1 then 1 else if 5 = 4 then 1 else 0) := by decide
theorem sp_6_0 : spL 7 6 0 = (if 0 = 0 then (if 6 = 1 ∨ 6 = 4 ∨ 6 = 6 then 6 else 0) else if 0 = 1 then (if 6 = 2 ∨ 6 = 5 ∨ 6 = 6 then 6 else 0) else if 0 = 2 then (if 6 = 3 ∨ 6 = 4 then 6 else 0) else if 6 = 1 then 1 else if 6 = 4 then 1 else 0) := by decide
theorem sp_6_1 : spL 7 6 1 = (if 1 = 0 then (if 6 = 1 ∨ 6 = 4 ∨ 6 = 6 then 6 else 0) else if 1 = 1 then (if 6 = 2 ∨ 6 = 5 ∨ 6 = 6 then 6 else 0) else if 1 = 2 then (if 6 = 3 ∨ 6 = 4 then 6 else 0) else if 6 = 1 then 1 else if 6 = 4 then 1 else 0) := by decide
theorem sp_6_2 : spL 7 6 2 = (if 2 = 0 then (if 6 = 1 ∨ 6 = 4 ∨ 6 = 6 then 6 else 0) else if 2 = 1 then (if 6 = 2 ∨ 6 = 5 ∨ 6 = 6 then 6 else 0) else if 2 = 2 then (if 6 = 3 ∨ 6 = 4 then 6 else 0) else if 6 = 1 then 1 else if 6 = 4 then 1 else 0) := by decide
theorem sp_6_3 : spL 7 6 3 = (if 3 = 0 then (if 6 = 1 ∨ 6 = 4 ∨ 6 = 6 then 6 else 0) else if 3 = 1 then (if 6 = 2 ∨ 6 = 5 ∨ 6 = 6 then 6 else 0) else if 3 = 2 then (if 6 = 3 ∨ 6 = 4 then 6 else 0) else if 6 = 1 then 1 else if 6 = 4 then 1 else 0) := by decide
section P48
variable {E E' : KE} {S : Shp} {d d' : Nat} {x1 x2 x3 : Int32} {σ τ : Sg} {Z : Int32 → Int32 → Sg → Sg → Prop} {K : Int32 → Sg → Prop} {L : Sg → Prop}
variable {p k : Nat} {m x : Int32}
theorem T_trades (h0 : R31 τ) (hp : p < 6) (hk : k < 7) (ek : τ 1 (10 + 32 * p + 0) = nI k) (em : τ 1 (10 + 32 * p + 1) = m) (h : K (trF (nI p) m k x).2 (aRR τ (trF (nI p) m k x).1)) : CallI E shR (d + 6) mX11_trades [.ref 0, .int (nI p), .int x] τ K := by
  refine vc_Md_trades (T_Mof hp (by decide) ?_)
  rw [ek]
  unfold trF at h
  have cb : ∀ {j : Nat}, j < 100 → nI k = nI j → k = j := fun hj c => (nI_eq (by omega) (by omega)).mp c
  refine ⟨fun c => ?_, fun c => ?_, fun c => ?_, fun n1 n2 n3 => ?_⟩
  · have e := cb (by decide) c
    subst e
    simp only [Nat.reduceEqDiff, if_false, if_true, aRR] at h
    exact T_widowTrades h0 hp hk ek h
  · have e := cb (by decide) c
    subst e
    simp only [Nat.reduceEqDiff, if_false, if_true, aRR] at h
    refine T_begins h0 (T_widowTrades (x := x + nI 1) (k := 5) (p := p) h0.ad1 hp hk ?_ ?_)
    · rw [aR1_ne (by decide) (by decide)]; exact ek
    · exact h
  · have e := cb (by decide) c
    subst e
    simp only [Nat.reduceEqDiff, if_false, if_true, aRR] at h
    refine T_begins h0 ((T_plainTrades (d := d + 1) h0.ad1 hp hk (by rw [aR1_ne (by decide) (by decide)]; exact ek) ?_))
    refine T_Mof hp (by decide) ?_
    rw [aRR_ne (by decide) (by decide), aR1_ne (by decide) (by decide), em]
    exact h
  · rw [if_neg (fun e => n1 (by rw [e])), if_neg (fun e => n2 (by rw [e])), if_neg (fun e => n3 (by rw [e]))] at h
    exact (T_plainTrades (d := d + 1) h0 hp hk ek h)
theorem T_plainAges (h0 : R31 τ) (hp : p < 6) (hk : k < 7) (ek : τ 1 (10 + 32 * p + 0) = nI k) (em : τ 1 (10 + 32 * p + 1) = m) (h : K (paF (nI p) m k x).2 (aRR τ (paF (nI p) m k x).1)) : CallI E shR (d + 7) mX11_plainAges [.ref 0, .int (nI p), .int x] τ K := by
  refine vc_Md_plainAges (T_begins h0 (T_trades (m := m) h0.ad1 hp hk (by rw [aR1_ne (by decide) (by decide)]; exact ek) (by rw [aR1_ne (by decide) (by decide)]; exact em) (T_Mof hp (by decide) ?_)))
  rw [aRR_ne (by decide) (by decide), aR1_ne (by decide) (by decide), em]
  exact h
theorem T_ages (h0 : R31 τ) (hp : p < 6) (hk : k < 7) (ek : τ 1 (10 + 32 * p + 0) = nI k) (em : τ 1 (10 + 32 * p + 1) = m) (h : K (agF (nI p) m k x).2 (aRR τ (agF (nI p) m k x).1)) : CallI E shR (d + 8) mX11_ages [.ref 0, .int (nI p), .int x] τ K := by
  refine vc_Md_ages (T_Mof hp (by decide) ?_)
  rw [ek]
  unfold agF at h
  have cb : ∀ {j : Nat}, j < 100 → nI k = nI j → k = j := fun hj c => (nI_eq (by omega) (by omega)).mp c
  refine ⟨fun c => ?_, fun c => ?_, fun n1 n2 => ?_⟩
  · have e := cb (by decide) c
    subst e
    simp only [Nat.reduceEqDiff, if_false, if_true, aRR] at h
    refine T_begins h0 (T_plainAges (x := x / nI 2) (k := 3) (p := p) (m := m) h0.ad1 hp hk ?_ ?_ ?_)
    · rw [aR1_ne (by decide) (by decide)]; exact ek
    · rw [aR1_ne (by decide) (by decide)]; exact em
    · exact h
  · have e := cb (by decide) c
    subst e
    simp only [Nat.reduceEqDiff, if_false, if_true, aRR] at h
    refine T_begins h0 (T_plainAges (x := x) (k := 4) (p := p) (m := m) h0.ad1 hp hk ?_ ?_ ?_)
    · rw [aR1_ne (by decide) (by decide)]; exact ek
    · rw [aR1_ne (by decide) (by decide)]; exact em
    · exact h
  · rw [if_neg (fun e => n1 (by rw [e])), if_neg (fun e => n2 (by rw [e]))] at h
    exact T_plainAges h0 hp hk ek em h
end P48
