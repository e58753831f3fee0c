/-! promises 36, 37: images -/
theorem tpP_congr {f g : Nat → Int32} {m : Nat} (h : ∀ j, j < m → g j = f j) : ∀ k, k ≤ m → tpP g k = tpP f k
  | 0, _ => rfl
  | k + 1, hk => by simp only [tpP]; rw [h k (by omega), tpP_congr h k (by omega)]
theorem wfS_congr {f g : Nat → Int32} {m : Nat} (h : ∀ j, j < m → g j = f j) (w : wfS f m) : wfS g m := by
  intro k hk
  rw [h k hk, tpP_congr h k (by omega)]
  exact w k hk
theorem RT.congr {n n' : Int32} {f g row : Nat → Int32} {at_ : Nat} (h : RT n f row at_) (e : n' = n) (eg : ∀ j, j < cl n → g j = f j) : RT n' g row at_ := by
  subst e
  obtain ⟨h1, h2, h3, h4⟩ := h
  exact ⟨h1, h2, fun j hj => by rw [eg j hj]; exact h3 j hj, wfS_congr eg h4⟩
/-- a world like another one, as far as anybody asks -/
def agP (σ σ' : Sg) : Prop := σ' 2 5 = σ 2 5 ∧ (∀ p, p < 6 → σ' 3 p = σ 3 p ∧ σ' 4 p = σ 4 p ∧ σ' 5 p = σ 5 p ∧ σ' 6 p = σ 6 p) ∧ ∀ j, j < 168 → σ' 7 j = σ 7 j
def agQ (σ σ' : Sg) : Prop := σ' 8 3 = σ 8 3 ∧ ∀ k, k < 8 → σ' 9 k = σ 9 k ∧ σ' 10 k = σ 10 k ∧ σ' 11 k = σ 11 k
def agC (σ σ' : Sg) : Prop := σ' 1 6 = σ 1 6 ∧ σ' 1 7 = σ 1 7 ∧ σ' 1 8 = σ 1 8 ∧ σ' 1 9 = σ 1 9 ∧ σ' 1 10 = σ 1 10 ∧ σ' 1 11 = σ 1 11
def agB (a b : Nat) (σ σ' : Sg) : Prop := σ' a 1 = σ a 1 ∧ ∀ j, j < cl (σ a 1) → σ' b j = σ b j
def agW (σ σ' : Sg) : Prop := agP σ σ' ∧ agQ σ σ' ∧ agC σ σ' ∧ agB 13 14 σ σ' ∧ agB 17 18 σ σ' ∧ agB 20 21 σ σ' ∧ agB 22 23 σ σ'
theorem RW.ag {σ σ' : Sg} {row : Nat → Int32} (h : RW σ row) (a : agW σ σ') : RW σ' row := by
  obtain ⟨⟨p1, p2, p3⟩, ⟨q1, q2⟩, ⟨c1, c2, c3, c4, c5, c6⟩, ⟨t1, t2⟩, ⟨u1, u2⟩, ⟨b1, b2⟩, ⟨w1, w2⟩⟩ := a
  obtain ⟨h1, h2, h3, h4, h5, h6, h7, h8⟩ := h
  have ep : nP σ' = nP σ := by unfold nP; rw [p1]
  have eq : nQ σ' = nQ σ := by unfold nQ; rw [q1]
  have hq := nQ_le h3
  refine ⟨⟨by rw [p1]; exact h1.1, fun p hp => ?_⟩, ⟨by rw [p1]; exact h2.1, fun p hp => ?_⟩, ⟨by rw [q1]; exact h3.1, fun k hk => ?_⟩, ⟨by rw [q1]; exact h4.1, fun k hk => ?_⟩, ?_, ?_, ⟨⟨by rw [b1]; exact h7.1.1, by rw [b1]; exact h7.1.2.1, fun j hj => ?_⟩, ⟨by rw [w1]; exact h7.2.1, by rw [w1]; exact h7.2.2.1, fun j hj => ?_⟩⟩, ⟨h8.1.congr t1 t2, h8.2.congr u1 u2⟩⟩
  · obtain ⟨a1, a2, a3, a4⟩ := p2 p hp
    rw [a1, a2, a3, a4]
    exact ⟨(h1.2 p hp).1, fun d hd => by rw [p3 _ (by omega)]; exact (h1.2 p hp).2 d hd⟩
  · obtain ⟨a1, a2, a3, a4⟩ := p2 p hp
    rw [a1, a2, a3, a4]
    exact ⟨(h2.2 p hp).1, fun d hd => by rw [p3 _ (by omega)]; exact (h2.2 p hp).2 d hd⟩
  · rw [eq] at hk
    obtain ⟨a1, a2, a3⟩ := q2 k (by omega)
    rw [a1, a2, a3, ep]
    exact h3.2 k hk
  · obtain ⟨a1, a2, a3⟩ := q2 k hk
    rw [a1, a2, a3]
    exact h4.2 k hk
  · unfold IvC; rw [c1, c2, c3, c4, c5]; exact h5
  · unfold RC; rw [c1, c2, c3, c4, c5, c6]; exact h6
  · rw [b1] at hj; rw [b2 j hj]; exact h7.1.2.2 j hj
  · rw [w1] at hj; rw [w2 j hj]; exact h7.2.2.2 j hj
theorem cpy_in {f g : Nat → Int32} {n j : Nat} (h : j < n) : va_cpy f g 0 0 n j = f j := by
  unfold va_cpy; rw [if_pos (by omega)]; congr 1; omega
section P37
variable {E E' : KE} {S : Shp} {d d' : Nat} {σ τ : Sg} {Z : Int32 → Int32 → Sg → Sg → Prop} {K : Sg → Prop}
theorem T_rowc_36_13 (hn : k_lt (σ 13 1) (60 + 1)) (h : ∀ σ', (∀ i, i ≠ 36 → i ≠ 37 → σ' i = σ i) → σ' 36 1 = σ 13 1 → (∀ j, j < cl (σ 13 1) → σ' 37 j = σ 14 j) → K σ') : CallN E shC d mX4_copyFrom [.ref 36, .ref 13] σ K := by
  obtain ⟨n, hn, e⟩ := hn
  have ecl : cl (σ 13 1) = n := by rw [e]; exact nI_clamp (by omega)
  refine vc_Row_copyFrom_36_13 ?_
  rw [e]
  simp (disch := omega) only [nI_clamp, nI_add, pk_mul, pk_sub, ↓pk_rem, pk_div, k_mod, k_m1, nI_ltI, nI_leI, nI_eq, k_n0lt, k_nle0, k_0ltn, k_0len, k_n0eq, k_vin, Nat.reduceAdd, Nat.reduceMul, Nat.reduceLT, Nat.reduceLeDiff, Nat.reduceSub, Nat.reduceEqDiff, Nat.zero_add, Nat.add_zero]
  rw [if_neg (by omega)]
  rintro _ rfl
  simp (disch := omega) only [nI_clamp, nI_add, pk_mul, pk_sub, ↓pk_rem, pk_div, k_mod, k_m1, nI_ltI, nI_leI, nI_eq, k_n0lt, k_nle0, k_0ltn, k_0len, k_n0eq, k_vin, Nat.reduceAdd, Nat.reduceMul, Nat.reduceLT, Nat.reduceLeDiff, Nat.reduceSub, Nat.reduceEqDiff, Nat.zero_add, Nat.add_zero, k_put_at, upd_at, k_put_ne (by decide : (14 : Nat) ≠ 36), k_put_ne (by decide : (37 : Nat) ≠ 36)]
  refine ⟨⟨fun z => z, fun z => z, fun z => z, by omega, by omega⟩, ?_⟩
  rintro _ rfl
  refine h _ (fun i h1 h2 => by rw [k_put_ne h2, k_put_ne h1]) ?_ (fun j hj => ?_)
  · rw [k_put_ne (by decide), k_put_at, upd_at, e]
  · rw [k_put_at, cpy_in (by rw [← ecl]; exact hj)]
theorem T_rowc_40_17 (hn : k_lt (σ 17 1) (60 + 1)) (h : ∀ σ', (∀ i, i ≠ 40 → i ≠ 41 → σ' i = σ i) → σ' 40 1 = σ 17 1 → (∀ j, j < cl (σ 17 1) → σ' 41 j = σ 18 j) → K σ') : CallN E shC d mX4_copyFrom [.ref 40, .ref 17] σ K := by
  obtain ⟨n, hn, e⟩ := hn
  have ecl : cl (σ 17 1) = n := by rw [e]; exact nI_clamp (by omega)
  refine vc_Row_copyFrom_40_17 ?_
  rw [e]
  simp (disch := omega) only [nI_clamp, nI_add, pk_mul, pk_sub, ↓pk_rem, pk_div, k_mod, k_m1, nI_ltI, nI_leI, nI_eq, k_n0lt, k_nle0, k_0ltn, k_0len, k_n0eq, k_vin, Nat.reduceAdd, Nat.reduceMul, Nat.reduceLT, Nat.reduceLeDiff, Nat.reduceSub, Nat.reduceEqDiff, Nat.zero_add, Nat.add_zero]
  rw [if_neg (by omega)]
  rintro _ rfl
  simp (disch := omega) only [nI_clamp, nI_add, pk_mul, pk_sub, ↓pk_rem, pk_div, k_mod, k_m1, nI_ltI, nI_leI, nI_eq, k_n0lt, k_nle0, k_0ltn, k_0len, k_n0eq, k_vin, Nat.reduceAdd, Nat.reduceMul, Nat.reduceLT, Nat.reduceLeDiff, Nat.reduceSub, Nat.reduceEqDiff, Nat.zero_add, Nat.add_zero, k_put_at, upd_at, k_put_ne (by decide : (18 : Nat) ≠ 40), k_put_ne (by decide : (41 : Nat) ≠ 40)]
  refine ⟨⟨fun z => z, fun z => z, fun z => z, by omega, by omega⟩, ?_⟩
  rintro _ rfl
  refine h _ (fun i h1 h2 => by rw [k_put_ne h2, k_put_ne h1]) ?_ (fun j hj => ?_)
  · rw [k_put_ne (by decide), k_put_at, upd_at, e]
  · rw [k_put_at, cpy_in (by rw [← ecl]; exact hj)]
theorem T_rowc_43_20 (hn : k_lt (σ 20 1) (60 + 1)) (h : ∀ σ', (∀ i, i ≠ 43 → i ≠ 44 → σ' i = σ i) → σ' 43 1 = σ 20 1 → (∀ j, j < cl (σ 20 1) → σ' 44 j = σ 21 j) → K σ') : CallN E shC d mX4_copyFrom [.ref 43, .ref 20] σ K := by
  obtain ⟨n, hn, e⟩ := hn
  have ecl : cl (σ 20 1) = n := by rw [e]; exact nI_clamp (by omega)
  refine vc_Row_copyFrom_43_20 ?_
  rw [e]
  simp (disch := omega) only [nI_clamp, nI_add, pk_mul, pk_sub, ↓pk_rem, pk_div, k_mod, k_m1, nI_ltI, nI_leI, nI_eq, k_n0lt, k_nle0, k_0ltn, k_0len, k_n0eq, k_vin, Nat.reduceAdd, Nat.reduceMul, Nat.reduceLT, Nat.reduceLeDiff, Nat.reduceSub, Nat.reduceEqDiff, Nat.zero_add, Nat.add_zero]
  rw [if_neg (by omega)]
  rintro _ rfl
  simp (disch := omega) only [nI_clamp, nI_add, pk_mul, pk_sub, ↓pk_rem, pk_div, k_mod, k_m1, nI_ltI, nI_leI, nI_eq, k_n0lt, k_nle0, k_0ltn, k_0len, k_n0eq, k_vin, Nat.reduceAdd, Nat.reduceMul, Nat.reduceLT, Nat.reduceLeDiff, Nat.reduceSub, Nat.reduceEqDiff, Nat.zero_add, Nat.add_zero, k_put_at, upd_at, k_put_ne (by decide : (21 : Nat) ≠ 43), k_put_ne (by decide : (44 : Nat) ≠ 43)]
  refine ⟨⟨fun z => z, fun z => z, fun z => z, by omega, by omega⟩, ?_⟩
  rintro _ rfl
  refine h _ (fun i h1 h2 => by rw [k_put_ne h2, k_put_ne h1]) ?_ (fun j hj => ?_)
  · rw [k_put_ne (by decide), k_put_at, upd_at, e]
  · rw [k_put_at, cpy_in (by rw [← ecl]; exact hj)]
theorem T_rowc_45_22 (hn : k_lt (σ 22 1) (24 + 1)) (h : ∀ σ', (∀ i, i ≠ 45 → i ≠ 46 → σ' i = σ i) → σ' 45 1 = σ 22 1 → (∀ j, j < cl (σ 22 1) → σ' 46 j = σ 23 j) → K σ') : CallN E shC d mX4_copyFrom [.ref 45, .ref 22] σ K := by
  obtain ⟨n, hn, e⟩ := hn
  have ecl : cl (σ 22 1) = n := by rw [e]; exact nI_clamp (by omega)
  refine vc_Row_copyFrom_45_22 ?_
  rw [e]
  simp (disch := omega) only [nI_clamp, nI_add, pk_mul, pk_sub, ↓pk_rem, pk_div, k_mod, k_m1, nI_ltI, nI_leI, nI_eq, k_n0lt, k_nle0, k_0ltn, k_0len, k_n0eq, k_vin, Nat.reduceAdd, Nat.reduceMul, Nat.reduceLT, Nat.reduceLeDiff, Nat.reduceSub, Nat.reduceEqDiff, Nat.zero_add, Nat.add_zero]
  rw [if_neg (by omega)]
  rintro _ rfl
  simp (disch := omega) only [nI_clamp, nI_add, pk_mul, pk_sub, ↓pk_rem, pk_div, k_mod, k_m1, nI_ltI, nI_leI, nI_eq, k_n0lt, k_nle0, k_0ltn, k_0len, k_n0eq, k_vin, Nat.reduceAdd, Nat.reduceMul, Nat.reduceLT, Nat.reduceLeDiff, Nat.reduceSub, Nat.reduceEqDiff, Nat.zero_add, Nat.add_zero, k_put_at, upd_at, k_put_ne (by decide : (23 : Nat) ≠ 45), k_put_ne (by decide : (46 : Nat) ≠ 45)]
  refine ⟨⟨fun z => z, fun z => z, fun z => z, by omega, by omega⟩, ?_⟩
  rintro _ rfl
  refine h _ (fun i h1 h2 => by rw [k_put_ne h2, k_put_ne h1]) ?_ (fun j hj => ?_)
  · rw [k_put_ne (by decide), k_put_at, upd_at, e]
  · rw [k_put_at, cpy_in (by rw [← ecl]; exact hj)]
theorem T_rowc_13_36 (hn : k_lt (σ 36 1) (60 + 1)) (h : ∀ σ', (∀ i, i ≠ 13 → i ≠ 14 → σ' i = σ i) → σ' 13 1 = σ 36 1 → (∀ j, j < cl (σ 36 1) → σ' 14 j = σ 37 j) → K σ') : CallN E shC d mX4_copyFrom [.ref 13, .ref 36] σ K := by
  obtain ⟨n, hn, e⟩ := hn
  have ecl : cl (σ 36 1) = n := by rw [e]; exact nI_clamp (by omega)
  refine vc_Row_copyFrom_13_36 ?_
  rw [e]
  simp (disch := omega) only [nI_clamp, nI_add, pk_mul, pk_sub, ↓pk_rem, pk_div, k_mod, k_m1, nI_ltI, nI_leI, nI_eq, k_n0lt, k_nle0, k_0ltn, k_0len, k_n0eq, k_vin, Nat.reduceAdd, Nat.reduceMul, Nat.reduceLT, Nat.reduceLeDiff, Nat.reduceSub, Nat.reduceEqDiff, Nat.zero_add, Nat.add_zero]
  rw [if_neg (by omega)]
  rintro _ rfl
  simp (disch := omega) only [nI_clamp, nI_add, pk_mul, pk_sub, ↓pk_rem, pk_div, k_mod, k_m1, nI_ltI, nI_leI, nI_eq, k_n0lt, k_nle0, k_0ltn, k_0len, k_n0eq, k_vin, Nat.reduceAdd, Nat.reduceMul, Nat.reduceLT, Nat.reduceLeDiff, Nat.reduceSub, Nat.reduceEqDiff, Nat.zero_add, Nat.add_zero, k_put_at, upd_at, k_put_ne (by decide : (37 : Nat) ≠ 13), k_put_ne (by decide : (14 : Nat) ≠ 13)]
  refine ⟨⟨fun z => z, fun z => z, fun z => z, by omega, by omega⟩, ?_⟩
  rintro _ rfl
  refine h _ (fun i h1 h2 => by rw [k_put_ne h2, k_put_ne h1]) ?_ (fun j hj => ?_)
  · rw [k_put_ne (by decide), k_put_at, upd_at, e]
  · rw [k_put_at, cpy_in (by rw [← ecl]; exact hj)]
theorem T_rowc_17_40 (hn : k_lt (σ 40 1) (60 + 1)) (h : ∀ σ', (∀ i, i ≠ 17 → i ≠ 18 → σ' i = σ i) → σ' 17 1 = σ 40 1 → (∀ j, j < cl (σ 40 1) → σ' 18 j = σ 41 j) → K σ') : CallN E shC d mX4_copyFrom [.ref 17, .ref 40] σ K := by
  obtain ⟨n, hn, e⟩ := hn
  have ecl : cl (σ 40 1) = n := by rw [e]; exact nI_clamp (by omega)
  refine vc_Row_copyFrom_17_40 ?_
  rw [e]
  simp (disch := omega) only [nI_clamp, nI_add, pk_mul, pk_sub, ↓pk_rem, pk_div, k_mod, k_m1, nI_ltI, nI_leI, nI_eq, k_n0lt, k_nle0, k_0ltn, k_0len, k_n0eq, k_vin, Nat.reduceAdd, Nat.reduceMul, Nat.reduceLT, Nat.reduceLeDiff, Nat.reduceSub, Nat.reduceEqDiff, Nat.zero_add, Nat.add_zero]
  rw [if_neg (by omega)]
  rintro _ rfl
  simp (disch := omega) only [nI_clamp, nI_add, pk_mul, pk_sub, ↓pk_rem, pk_div, k_mod, k_m1, nI_ltI, nI_leI, nI_eq, k_n0lt, k_nle0, k_0ltn, k_0len, k_n0eq, k_vin, Nat.reduceAdd, Nat.reduceMul, Nat.reduceLT, Nat.reduceLeDiff, Nat.reduceSub, Nat.reduceEqDiff, Nat.zero_add, Nat.add_zero, k_put_at, upd_at, k_put_ne (by decide : (41 : Nat) ≠ 17), k_put_ne (by decide : (18 : Nat) ≠ 17)]
  refine ⟨⟨fun z => z, fun z => z, fun z => z, by omega, by omega⟩, ?_⟩
  rintro _ rfl
  refine h _ (fun i h1 h2 => by rw [k_put_ne h2, k_put_ne h1]) ?_ (fun j hj => ?_)
  · rw [k_put_ne (by decide), k_put_at, upd_at, e]
  · rw [k_put_at, cpy_in (by rw [← ecl]; exact hj)]
theorem T_rowc_20_43 (hn : k_lt (σ 43 1) (60 + 1)) (h : ∀ σ', (∀ i, i ≠ 20 → i ≠ 21 → σ' i = σ i) → σ' 20 1 = σ 43 1 → (∀ j, j < cl (σ 43 1) → σ' 21 j = σ 44 j) → K σ') : CallN E shC d mX4_copyFrom [.ref 20, .ref 43] σ K := by
  obtain ⟨n, hn, e⟩ := hn
  have ecl : cl (σ 43 1) = n := by rw [e]; exact nI_clamp (by omega)
  refine vc_Row_copyFrom_20_43 ?_
  rw [e]
  simp (disch := omega) only [nI_clamp, nI_add, pk_mul, pk_sub, ↓pk_rem, pk_div, k_mod, k_m1, nI_ltI, nI_leI, nI_eq, k_n0lt, k_nle0, k_0ltn, k_0len, k_n0eq, k_vin, Nat.reduceAdd, Nat.reduceMul, Nat.reduceLT, Nat.reduceLeDiff, Nat.reduceSub, Nat.reduceEqDiff, Nat.zero_add, Nat.add_zero]
  rw [if_neg (by omega)]
  rintro _ rfl
  simp (disch := omega) only [nI_clamp, nI_add, pk_mul, pk_sub, ↓pk_rem, pk_div, k_mod, k_m1, nI_ltI, nI_leI, nI_eq, k_n0lt, k_nle0, k_0ltn, k_0len, k_n0eq, k_vin, Nat.reduceAdd, Nat.reduceMul, Nat.reduceLT, Nat.reduceLeDiff, Nat.reduceSub, Nat.reduceEqDiff, Nat.zero_add, Nat.add_zero, k_put_at, upd_at, k_put_ne (by decide : (44 : Nat) ≠ 20), k_put_ne (by decide : (21 : Nat) ≠ 20)]
  refine ⟨⟨fun z => z, fun z => z, fun z => z, by omega, by omega⟩, ?_⟩
  rintro _ rfl
  refine h _ (fun i h1 h2 => by rw [k_put_ne h2, k_put_ne h1]) ?_ (fun j hj => ?_)
  · rw [k_put_ne (by decide), k_put_at, upd_at, e]
  · rw [k_put_at, cpy_in (by rw [← ecl]; exact hj)]
theorem T_rowc_22_45 (hn : k_lt (σ 45 1) (24 + 1)) (h : ∀ σ', (∀ i, i ≠ 22 → i ≠ 23 → σ' i = σ i) → σ' 22 1 = σ 45 1 → (∀ j, j < cl (σ 45 1) → σ' 23 j = σ 46 j) → K σ') : CallN E shC d mX4_copyFrom [.ref 22, .ref 45] σ K := by
  obtain ⟨n, hn, e⟩ := hn
  have ecl : cl (σ 45 1) = n := by rw [e]; exact nI_clamp (by omega)
  refine vc_Row_copyFrom_22_45 ?_
  rw [e]
  simp (disch := omega) only [nI_clamp, nI_add, pk_mul, pk_sub, ↓pk_rem, pk_div, k_mod, k_m1, nI_ltI, nI_leI, nI_eq, k_n0lt, k_nle0, k_0ltn, k_0len, k_n0eq, k_vin, Nat.reduceAdd, Nat.reduceMul, Nat.reduceLT, Nat.reduceLeDiff, Nat.reduceSub, Nat.reduceEqDiff, Nat.zero_add, Nat.add_zero]
  rw [if_neg (by omega)]
  rintro _ rfl
  simp (disch := omega) only [nI_clamp, nI_add, pk_mul, pk_sub, ↓pk_rem, pk_div, k_mod, k_m1, nI_ltI, nI_leI, nI_eq, k_n0lt, k_nle0, k_0ltn, k_0len, k_n0eq, k_vin, Nat.reduceAdd, Nat.reduceMul, Nat.reduceLT, Nat.reduceLeDiff, Nat.reduceSub, Nat.reduceEqDiff, Nat.zero_add, Nat.add_zero, k_put_at, upd_at, k_put_ne (by decide : (46 : Nat) ≠ 22), k_put_ne (by decide : (23 : Nat) ≠ 22)]
  refine ⟨⟨fun z => z, fun z => z, fun z => z, by omega, by omega⟩, ?_⟩
  rintro _ rfl
  refine h _ (fun i h1 h2 => by rw [k_put_ne h2, k_put_ne h1]) ?_ (fun j hj => ?_)
  · rw [k_put_ne (by decide), k_put_at, upd_at, e]
  · rw [k_put_at, cpy_in (by rw [← ecl]; exact hj)]
theorem T_rowc_13_48 (hn : k_lt (σ 48 1) (60 + 1)) (h : ∀ σ', (∀ i, i ≠ 13 → i ≠ 14 → σ' i = σ i) → σ' 13 1 = σ 48 1 → (∀ j, j < cl (σ 48 1) → σ' 14 j = σ 49 j) → K σ') : CallN E shC d mX4_copyFrom [.ref 13, .ref 48] σ K := by
  obtain ⟨n, hn, e⟩ := hn
  have ecl : cl (σ 48 1) = n := by rw [e]; exact nI_clamp (by omega)
  refine vc_Row_copyFrom_13_48 ?_
  rw [e]
  simp (disch := omega) only [nI_clamp, nI_add, pk_mul, pk_sub, ↓pk_rem, pk_div, k_mod, k_m1, nI_ltI, nI_leI, nI_eq, k_n0lt, k_nle0, k_0ltn, k_0len, k_n0eq, k_vin, Nat.reduceAdd, Nat.reduceMul, Nat.reduceLT, Nat.reduceLeDiff, Nat.reduceSub, Nat.reduceEqDiff, Nat.zero_add, Nat.add_zero]
  rw [if_neg (by omega)]
  rintro _ rfl
  simp (disch := omega) only [nI_clamp, nI_add, pk_mul, pk_sub, ↓pk_rem, pk_div, k_mod, k_m1, nI_ltI, nI_leI, nI_eq, k_n0lt, k_nle0, k_0ltn, k_0len, k_n0eq, k_vin, Nat.reduceAdd, Nat.reduceMul, Nat.reduceLT, Nat.reduceLeDiff, Nat.reduceSub, Nat.reduceEqDiff, Nat.zero_add, Nat.add_zero, k_put_at, upd_at, k_put_ne (by decide : (49 : Nat) ≠ 13), k_put_ne (by decide : (14 : Nat) ≠ 13)]
  refine ⟨⟨fun z => z, fun z => z, fun z => z, by omega, by omega⟩, ?_⟩
  rintro _ rfl
  refine h _ (fun i h1 h2 => by rw [k_put_ne h2, k_put_ne h1]) ?_ (fun j hj => ?_)
  · rw [k_put_ne (by decide), k_put_at, upd_at, e]
  · rw [k_put_at, cpy_in (by rw [← ecl]; exact hj)]
theorem T_rowc_17_48 (hn : k_lt (σ 48 1) (60 + 1)) (h : ∀ σ', (∀ i, i ≠ 17 → i ≠ 18 → σ' i = σ i) → σ' 17 1 = σ 48 1 → (∀ j, j < cl (σ 48 1) → σ' 18 j = σ 49 j) → K σ') : CallN E shC d mX4_copyFrom [.ref 17, .ref 48] σ K := by
  obtain ⟨n, hn, e⟩ := hn
  have ecl : cl (σ 48 1) = n := by rw [e]; exact nI_clamp (by omega)
  refine vc_Row_copyFrom_17_48 ?_
  rw [e]
  simp (disch := omega) only [nI_clamp, nI_add, pk_mul, pk_sub, ↓pk_rem, pk_div, k_mod, k_m1, nI_ltI, nI_leI, nI_eq, k_n0lt, k_nle0, k_0ltn, k_0len, k_n0eq, k_vin, Nat.reduceAdd, Nat.reduceMul, Nat.reduceLT, Nat.reduceLeDiff, Nat.reduceSub, Nat.reduceEqDiff, Nat.zero_add, Nat.add_zero]
  rw [if_neg (by omega)]
  rintro _ rfl
  simp (disch := omega) only [nI_clamp, nI_add, pk_mul, pk_sub, ↓pk_rem, pk_div, k_mod, k_m1, nI_ltI, nI_leI, nI_eq, k_n0lt, k_nle0, k_0ltn, k_0len, k_n0eq, k_vin, Nat.reduceAdd, Nat.reduceMul, Nat.reduceLT, Nat.reduceLeDiff, Nat.reduceSub, Nat.reduceEqDiff, Nat.zero_add, Nat.add_zero, k_put_at, upd_at, k_put_ne (by decide : (49 : Nat) ≠ 17), k_put_ne (by decide : (18 : Nat) ≠ 17)]
  refine ⟨⟨fun z => z, fun z => z, fun z => z, by omega, by omega⟩, ?_⟩
  rintro _ rfl
  refine h _ (fun i h1 h2 => by rw [k_put_ne h2, k_put_ne h1]) ?_ (fun j hj => ?_)
  · rw [k_put_ne (by decide), k_put_at, upd_at, e]
  · rw [k_put_at, cpy_in (by rw [← ecl]; exact hj)]
theorem T_rowc_50_20 (hn : k_lt (σ 20 1) (60 + 1)) (h : ∀ σ', (∀ i, i ≠ 50 → i ≠ 51 → σ' i = σ i) → σ' 50 1 = σ 20 1 → (∀ j, j < cl (σ 20 1) → σ' 51 j = σ 21 j) → K σ') : CallN E shC d mX4_copyFrom [.ref 50, .ref 20] σ K := by
  obtain ⟨n, hn, e⟩ := hn
  have ecl : cl (σ 20 1) = n := by rw [e]; exact nI_clamp (by omega)
  refine vc_Row_copyFrom_50_20 ?_
  rw [e]
  simp (disch := omega) only [nI_clamp, nI_add, pk_mul, pk_sub, ↓pk_rem, pk_div, k_mod, k_m1, nI_ltI, nI_leI, nI_eq, k_n0lt, k_nle0, k_0ltn, k_0len, k_n0eq, k_vin, Nat.reduceAdd, Nat.reduceMul, Nat.reduceLT, Nat.reduceLeDiff, Nat.reduceSub, Nat.reduceEqDiff, Nat.zero_add, Nat.add_zero]
  rw [if_neg (by omega)]
  rintro _ rfl
  simp (disch := omega) only [nI_clamp, nI_add, pk_mul, pk_sub, ↓pk_rem, pk_div, k_mod, k_m1, nI_ltI, nI_leI, nI_eq, k_n0lt, k_nle0, k_0ltn, k_0len, k_n0eq, k_vin, Nat.reduceAdd, Nat.reduceMul, Nat.reduceLT, Nat.reduceLeDiff, Nat.reduceSub, Nat.reduceEqDiff, Nat.zero_add, Nat.add_zero, k_put_at, upd_at, k_put_ne (by decide : (21 : Nat) ≠ 50), k_put_ne (by decide : (51 : Nat) ≠ 50)]
  refine ⟨⟨fun z => z, fun z => z, fun z => z, by omega, by omega⟩, ?_⟩
  rintro _ rfl
  refine h _ (fun i h1 h2 => by rw [k_put_ne h2, k_put_ne h1]) ?_ (fun j hj => ?_)
  · rw [k_put_ne (by decide), k_put_at, upd_at, e]
  · rw [k_put_at, cpy_in (by rw [← ecl]; exact hj)]
theorem T_peoplec_25 (h : ∀ σ', (∀ i, i ≠ 25 → i ≠ 26 → i ≠ 27 → i ≠ 28 → i ≠ 29 → i ≠ 30 → σ' i = σ i) → σ' 25 5 = σ 2 5 → (∀ p, p < 6 → σ' 26 p = σ 3 p ∧ σ' 27 p = σ 4 p ∧ σ' 28 p = σ 5 p ∧ σ' 29 p = σ 6 p) → (∀ j, j < 168 → σ' 30 j = σ 7 j) → K σ') : CallN E shC d mX1_copyFrom [.ref 25, .ref 2] σ K := by
  refine vc_People_copyFrom_25_2 ?_
  simp (disch := omega) only [nI_clamp, nI_add, pk_mul, pk_sub, ↓pk_rem, pk_div, k_mod, k_m1, nI_ltI, nI_leI, nI_eq, k_n0lt, k_nle0, k_0ltn, k_0len, k_n0eq, k_vin, Nat.reduceAdd, Nat.reduceMul, Nat.reduceLT, Nat.reduceLeDiff, Nat.reduceSub, Nat.reduceEqDiff, Nat.zero_add, Nat.add_zero]
  rintro _ rfl
  refine ⟨⟨fun z => z, fun z => z, fun z => z, by decide, by decide⟩, ?_⟩
  rintro _ rfl
  refine ⟨⟨fun z => z, fun z => z, fun z => z, by decide, by decide⟩, ?_⟩
  rintro _ rfl
  refine ⟨⟨fun z => z, fun z => z, fun z => z, by decide, by decide⟩, ?_⟩
  rintro _ rfl
  refine ⟨⟨fun z => z, fun z => z, fun z => z, by decide, by decide⟩, ?_⟩
  rintro _ rfl
  refine ⟨⟨fun z => z, fun z => z, fun z => z, by decide, by decide⟩, ?_⟩
  rintro _ rfl
  refine h _ (fun i h0 h1 h2 h3 h4 h5 => ?_) rfl (fun p hp => ⟨?_, ?_, ?_, ?_⟩) (fun j hj => ?_)
  · rw [k_put_ne h5, k_put_ne h4, k_put_ne h3, k_put_ne h2, k_put_ne h1, k_put_ne h0]
  · exact cpy_in hp
  · exact cpy_in hp
  · exact cpy_in hp
  · exact cpy_in hp
  · exact cpy_in hj
theorem T_peoplec_2 (h : ∀ σ', (∀ i, i ≠ 2 → i ≠ 3 → i ≠ 4 → i ≠ 5 → i ≠ 6 → i ≠ 7 → σ' i = σ i) → σ' 2 5 = σ 25 5 → (∀ p, p < 6 → σ' 3 p = σ 26 p ∧ σ' 4 p = σ 27 p ∧ σ' 5 p = σ 28 p ∧ σ' 6 p = σ 29 p) → (∀ j, j < 168 → σ' 7 j = σ 30 j) → K σ') : CallN E shC d mX1_copyFrom [.ref 2, .ref 25] σ K := by
  refine vc_People_copyFrom_2_25 ?_
  simp (disch := omega) only [nI_clamp, nI_add, pk_mul, pk_sub, ↓pk_rem, pk_div, k_mod, k_m1, nI_ltI, nI_leI, nI_eq, k_n0lt, k_nle0, k_0ltn, k_0len, k_n0eq, k_vin, Nat.reduceAdd, Nat.reduceMul, Nat.reduceLT, Nat.reduceLeDiff, Nat.reduceSub, Nat.reduceEqDiff, Nat.zero_add, Nat.add_zero]
  rintro _ rfl
  refine ⟨⟨fun z => z, fun z => z, fun z => z, by decide, by decide⟩, ?_⟩
  rintro _ rfl
  refine ⟨⟨fun z => z, fun z => z, fun z => z, by decide, by decide⟩, ?_⟩
  rintro _ rfl
  refine ⟨⟨fun z => z, fun z => z, fun z => z, by decide, by decide⟩, ?_⟩
  rintro _ rfl
  refine ⟨⟨fun z => z, fun z => z, fun z => z, by decide, by decide⟩, ?_⟩
  rintro _ rfl
  refine ⟨⟨fun z => z, fun z => z, fun z => z, by decide, by decide⟩, ?_⟩
  rintro _ rfl
  refine h _ (fun i h0 h1 h2 h3 h4 h5 => ?_) rfl (fun p hp => ⟨?_, ?_, ?_, ?_⟩) (fun j hj => ?_)
  · rw [k_put_ne h5, k_put_ne h4, k_put_ne h3, k_put_ne h2, k_put_ne h1, k_put_ne h0]
  · exact cpy_in hp
  · exact cpy_in hp
  · exact cpy_in hp
  · exact cpy_in hp
  · exact cpy_in hj
theorem T_promisesc_31 (h : ∀ σ', (∀ i, i ≠ 31 → i ≠ 32 → i ≠ 33 → i ≠ 34 → σ' i = σ i) → σ' 31 3 = σ 8 3 → (∀ p, p < 8 → σ' 32 p = σ 9 p ∧ σ' 33 p = σ 10 p ∧ σ' 34 p = σ 11 p) → K σ') : CallN E shC d mX2_copyFrom [.ref 31, .ref 8] σ K := by
  refine vc_Promises_copyFrom_31_8 ?_
  simp (disch := omega) only [nI_clamp, nI_add, pk_mul, pk_sub, ↓pk_rem, pk_div, k_mod, k_m1, nI_ltI, nI_leI, nI_eq, k_n0lt, k_nle0, k_0ltn, k_0len, k_n0eq, k_vin, Nat.reduceAdd, Nat.reduceMul, Nat.reduceLT, Nat.reduceLeDiff, Nat.reduceSub, Nat.reduceEqDiff, Nat.zero_add, Nat.add_zero]
  rintro _ rfl
  refine ⟨⟨fun z => z, fun z => z, fun z => z, by decide, by decide⟩, ?_⟩
  rintro _ rfl
  refine ⟨⟨fun z => z, fun z => z, fun z => z, by decide, by decide⟩, ?_⟩
  rintro _ rfl
  refine ⟨⟨fun z => z, fun z => z, fun z => z, by decide, by decide⟩, ?_⟩
  rintro _ rfl
  refine h _ (fun i h0 h1 h2 h3 => ?_) rfl (fun p hp => ⟨?_, ?_, ?_⟩)
  · rw [k_put_ne h3, k_put_ne h2, k_put_ne h1, k_put_ne h0]
  · exact cpy_in hp
  · exact cpy_in hp
  · exact cpy_in hp
theorem T_promisesc_8 (h : ∀ σ', (∀ i, i ≠ 8 → i ≠ 9 → i ≠ 10 → i ≠ 11 → σ' i = σ i) → σ' 8 3 = σ 31 3 → (∀ p, p < 8 → σ' 9 p = σ 32 p ∧ σ' 10 p = σ 33 p ∧ σ' 11 p = σ 34 p) → K σ') : CallN E shC d mX2_copyFrom [.ref 8, .ref 31] σ K := by
  refine vc_Promises_copyFrom_8_31 ?_
  simp (disch := omega) only [nI_clamp, nI_add, pk_mul, pk_sub, ↓pk_rem, pk_div, k_mod, k_m1, nI_ltI, nI_leI, nI_eq, k_n0lt, k_nle0, k_0ltn, k_0len, k_n0eq, k_vin, Nat.reduceAdd, Nat.reduceMul, Nat.reduceLT, Nat.reduceLeDiff, Nat.reduceSub, Nat.reduceEqDiff, Nat.zero_add, Nat.add_zero]
  rintro _ rfl
  refine ⟨⟨fun z => z, fun z => z, fun z => z, by decide, by decide⟩, ?_⟩
  rintro _ rfl
  refine ⟨⟨fun z => z, fun z => z, fun z => z, by decide, by decide⟩, ?_⟩
  rintro _ rfl
  refine ⟨⟨fun z => z, fun z => z, fun z => z, by decide, by decide⟩, ?_⟩
  rintro _ rfl
  refine h _ (fun i h0 h1 h2 h3 => ?_) rfl (fun p hp => ⟨?_, ?_, ?_⟩)
  · rw [k_put_ne h3, k_put_ne h2, k_put_ne h1, k_put_ne h0]
  · exact cpy_in hp
  · exact cpy_in hp
  · exact cpy_in hp
/-- the ranges that copying asks for -/
def rgW (σ : Sg) : Prop := k_lt (σ 13 1) 61 ∧ k_lt (σ 17 1) 61 ∧ k_lt (σ 20 1) 61 ∧ k_lt (σ 22 1) 25
theorem RW.rg {σ : Sg} {row : Nat → Int32} (h : RW σ row) : rgW σ := ⟨h.x.1.1, h.x.2.1, h.b.1.1, h.b.2.1⟩
theorem T_toImage (hg : rgW σ) (h : ∀ σ', (∀ i, (i < 24 ∨ 46 < i) → σ' i = σ i) → agW σ (k_sh σ') → K σ') : CallN E shC (d + 1) mX9_copyFrom [.ref 24, .ref 1] σ K := by
  obtain ⟨g1, g2, g3, g4⟩ := hg
  refine vc_World_copyFrom_24_1 (T_peoplec_25 (fun σ1 p1 p2 p3 p4 => T_promisesc_31 (fun σ2 q1 q2 q3 => T_rowc_36_13 ?_ (fun σ3 r1 r2 r3 => T_rowc_40_17 ?_ (fun σ4 s1 s2 s3 => T_rowc_43_20 ?_ (fun σ5 t1 t2 t3 => T_rowc_45_22 ?_ (fun σ6 u1 u2 u3 => ?_)))))))
  · rw [q1 13 (by decide) (by decide) (by decide) (by decide), p1 13 (by decide) (by decide) (by decide) (by decide) (by decide) (by decide)]; exact g1
  · rw [r1 17 (by decide) (by decide), q1 17 (by decide) (by decide) (by decide) (by decide), p1 17 (by decide) (by decide) (by decide) (by decide) (by decide) (by decide)]; exact g2
  · rw [s1 20 (by decide) (by decide), r1 20 (by decide) (by decide), q1 20 (by decide) (by decide) (by decide) (by decide), p1 20 (by decide) (by decide) (by decide) (by decide) (by decide) (by decide)]; exact g3
  · rw [t1 22 (by decide) (by decide), s1 22 (by decide) (by decide), r1 22 (by decide) (by decide), q1 22 (by decide) (by decide) (by decide) (by decide), p1 22 (by decide) (by decide) (by decide) (by decide) (by decide) (by decide)]; exact g4
  have o6 : ∀ i, (i < 25 ∨ 46 < i) → σ6 i = σ i := fun i hi => by
    rw [u1 i (by omega) (by omega), t1 i (by omega) (by omega), s1 i (by omega) (by omega), r1 i (by omega) (by omega), q1 i (by omega) (by omega) (by omega) (by omega), p1 i (by omega) (by omega) (by omega) (by omega) (by omega) (by omega)]
  have o1 : ∀ i, (i < 25 ∨ 30 < i) → σ1 i = σ i := fun i hi => p1 i (by omega) (by omega) (by omega) (by omega) (by omega) (by omega)
  have o2 : ∀ i, (i < 31 ∨ 34 < i) → σ2 i = σ1 i := fun i hi => q1 i (by omega) (by omega) (by omega) (by omega)
  have o36 : ∀ i, (i < 36) → σ6 i = σ2 i := fun i hi => by rw [u1 i (by omega) (by omega), t1 i (by omega) (by omega), s1 i (by omega) (by omega), r1 i (by omega) (by omega)]
  rintro _ rfl
  rintro _ rfl
  rintro _ rfl
  rintro _ rfl
  rintro _ rfl
  rintro _ rfl
  simp only [k_put_put, k_put_at, k_put_ne (by decide : (1 : Nat) ≠ 24)]
  refine h _ (fun i hi => by rw [k_put_ne (by omega)]; exact o6 i (by omega)) ?_
  unfold k_sh
  refine ⟨⟨?_, fun p hp => ?_, fun j hj => ?_⟩, ⟨?_, fun k hk => ?_⟩, ?_, ⟨?_, fun j hj => ?_⟩, ⟨?_, fun j hj => ?_⟩, ⟨?_, fun j hj => ?_⟩, ⟨?_, fun j hj => ?_⟩⟩
  · show k_put σ6 24 _ 25 5 = _
    rw [k_put_ne (by decide), o36 25 (by decide), o2 25 (by decide), p2]
  · show k_put σ6 24 _ 26 p = _ ∧ k_put σ6 24 _ 27 p = _ ∧ k_put σ6 24 _ 28 p = _ ∧ k_put σ6 24 _ 29 p = _
    rw [k_put_ne (by decide), k_put_ne (by decide), k_put_ne (by decide), k_put_ne (by decide), o36 26 (by decide), o2 26 (by decide), o36 27 (by decide), o2 27 (by decide), o36 28 (by decide), o2 28 (by decide), o36 29 (by decide), o2 29 (by decide)]
    exact p3 p hp
  · show k_put σ6 24 _ 30 j = _
    rw [k_put_ne (by decide), o36 30 (by decide), o2 30 (by decide), p4 j hj]
  · show k_put σ6 24 _ 31 3 = _
    rw [k_put_ne (by decide), o36 31 (by decide), q2, o1 8 (by decide)]
  · show k_put σ6 24 _ 32 k = _ ∧ k_put σ6 24 _ 33 k = _ ∧ k_put σ6 24 _ 34 k = _
    rw [k_put_ne (by decide), k_put_ne (by decide), k_put_ne (by decide), o36 32 (by decide), o36 33 (by decide), o36 34 (by decide)]
    have := q3 k hk
    rw [o1 9 (by decide), o1 10 (by decide), o1 11 (by decide)] at this
    exact this
  · unfold agC
    have e1 := o6 1 (by decide)
    show k_put σ6 24 _ 24 6 = _ ∧ k_put σ6 24 _ 24 7 = _ ∧ k_put σ6 24 _ 24 8 = _ ∧ k_put σ6 24 _ 24 9 = _ ∧ k_put σ6 24 _ 24 10 = _ ∧ k_put σ6 24 _ 24 11 = _
    simp only [k_put_at, e1]
    exact ⟨rfl, rfl, rfl, rfl, rfl, rfl⟩
  · show k_put σ6 24 _ 36 1 = _
    rw [k_put_ne (by decide), u1 36 (by decide) (by decide), t1 36 (by decide) (by decide), s1 36 (by decide) (by decide), r2, o2 13 (by decide), o1 13 (by decide)]
  · show k_put σ6 24 _ 37 j = _
    rw [k_put_ne (by decide), u1 37 (by decide) (by decide), t1 37 (by decide) (by decide), s1 37 (by decide) (by decide), r3 j (by rw [o2 13 (by decide), o1 13 (by decide)]; exact hj), o2 14 (by decide), o1 14 (by decide)]
  · show k_put σ6 24 _ 40 1 = _
    rw [k_put_ne (by decide), u1 40 (by decide) (by decide), t1 40 (by decide) (by decide), s2, r1 17 (by decide) (by decide), o2 17 (by decide), o1 17 (by decide)]
  · show k_put σ6 24 _ 41 j = _
    rw [k_put_ne (by decide), u1 41 (by decide) (by decide), t1 41 (by decide) (by decide), s3 j (by rw [r1 17 (by decide) (by decide), o2 17 (by decide), o1 17 (by decide)]; exact hj), r1 18 (by decide) (by decide), o2 18 (by decide), o1 18 (by decide)]
  · show k_put σ6 24 _ 43 1 = _
    rw [k_put_ne (by decide), u1 43 (by decide) (by decide), t2, s1 20 (by decide) (by decide), r1 20 (by decide) (by decide), o2 20 (by decide), o1 20 (by decide)]
  · show k_put σ6 24 _ 44 j = _
    rw [k_put_ne (by decide), u1 44 (by decide) (by decide), t3 j (by rw [s1 20 (by decide) (by decide), r1 20 (by decide) (by decide), o2 20 (by decide), o1 20 (by decide)]; exact hj), s1 21 (by decide) (by decide), r1 21 (by decide) (by decide), o2 21 (by decide), o1 21 (by decide)]
  · show k_put σ6 24 _ 45 1 = _
    rw [k_put_ne (by decide), u2, t1 22 (by decide) (by decide), s1 22 (by decide) (by decide), r1 22 (by decide) (by decide), o2 22 (by decide), o1 22 (by decide)]
  · show k_put σ6 24 _ 46 j = _
    rw [k_put_ne (by decide), u3 j (by rw [t1 22 (by decide) (by decide), s1 22 (by decide) (by decide), r1 22 (by decide) (by decide), o2 22 (by decide), o1 22 (by decide)]; exact hj), t1 23 (by decide) (by decide), s1 23 (by decide) (by decide), r1 23 (by decide) (by decide), o2 23 (by decide), o1 23 (by decide)]
theorem T_toNow (hg : rgW (k_sh σ)) (h : ∀ σ', (∀ i, (i < 1 ∨ 23 < i) → σ' i = σ i) → agW (k_sh σ) σ' → K σ') : CallN E shC (d + 1) mX9_copyFrom [.ref 1, .ref 24] σ K := by
  obtain ⟨g1, g2, g3, g4⟩ := hg
  refine vc_World_copyFrom_1_24 (T_peoplec_2 (fun σ1 p1 p2 p3 p4 => T_promisesc_8 (fun σ2 q1 q2 q3 => T_rowc_13_36 ?_ (fun σ3 r1 r2 r3 => T_rowc_17_40 ?_ (fun σ4 s1 s2 s3 => T_rowc_20_43 ?_ (fun σ5 t1 t2 t3 => T_rowc_22_45 ?_ (fun σ6 u1 u2 u3 => ?_)))))))
  · rw [q1 36 (by decide) (by decide) (by decide) (by decide), p1 36 (by decide) (by decide) (by decide) (by decide) (by decide) (by decide)]; exact g1
  · rw [r1 40 (by decide) (by decide), q1 40 (by decide) (by decide) (by decide) (by decide), p1 40 (by decide) (by decide) (by decide) (by decide) (by decide) (by decide)]; exact g2
  · rw [s1 43 (by decide) (by decide), r1 43 (by decide) (by decide), q1 43 (by decide) (by decide) (by decide) (by decide), p1 43 (by decide) (by decide) (by decide) (by decide) (by decide) (by decide)]; exact g3
  · rw [t1 45 (by decide) (by decide), s1 45 (by decide) (by decide), r1 45 (by decide) (by decide), q1 45 (by decide) (by decide) (by decide) (by decide), p1 45 (by decide) (by decide) (by decide) (by decide) (by decide) (by decide)]; exact g4
  have o6 : ∀ i, (i < 2 ∨ 23 < i) → σ6 i = σ i := fun i hi => by
    rw [u1 i (by omega) (by omega), t1 i (by omega) (by omega), s1 i (by omega) (by omega), r1 i (by omega) (by omega), q1 i (by omega) (by omega) (by omega) (by omega), p1 i (by omega) (by omega) (by omega) (by omega) (by omega) (by omega)]
  have o1 : ∀ i, (i < 2 ∨ 7 < i) → σ1 i = σ i := fun i hi => p1 i (by omega) (by omega) (by omega) (by omega) (by omega) (by omega)
  have o2 : ∀ i, (i < 8 ∨ 11 < i) → σ2 i = σ1 i := fun i hi => q1 i (by omega) (by omega) (by omega) (by omega)
  have o36 : ∀ i, (i < 13) → σ6 i = σ2 i := fun i hi => by rw [u1 i (by omega) (by omega), t1 i (by omega) (by omega), s1 i (by omega) (by omega), r1 i (by omega) (by omega)]
  rintro _ rfl
  rintro _ rfl
  rintro _ rfl
  rintro _ rfl
  rintro _ rfl
  rintro _ rfl
  simp only [k_put_put, k_put_at, k_put_ne (by decide : (24 : Nat) ≠ 1)]
  refine h _ (fun i hi => by rw [k_put_ne (by omega)]; exact o6 i (by omega)) ?_
  unfold k_sh
  refine ⟨⟨?_, fun p hp => ?_, fun j hj => ?_⟩, ⟨?_, fun k hk => ?_⟩, ?_, ⟨?_, fun j hj => ?_⟩, ⟨?_, fun j hj => ?_⟩, ⟨?_, fun j hj => ?_⟩, ⟨?_, fun j hj => ?_⟩⟩
  · rw [k_put_ne (by decide), o36 2 (by decide), o2 2 (by decide), p2]
  · rw [k_put_ne (by decide), k_put_ne (by decide), k_put_ne (by decide), k_put_ne (by decide), o36 3 (by decide), o2 3 (by decide), o36 4 (by decide), o2 4 (by decide), o36 5 (by decide), o2 5 (by decide), o36 6 (by decide), o2 6 (by decide)]
    exact p3 p hp
  · rw [k_put_ne (by decide), o36 7 (by decide), o2 7 (by decide), p4 j hj]
  · rw [k_put_ne (by decide), o36 8 (by decide), q2, o1 31 (by decide)]
  · rw [k_put_ne (by decide), k_put_ne (by decide), k_put_ne (by decide), o36 9 (by decide), o36 10 (by decide), o36 11 (by decide)]
    have := q3 k hk
    rw [o1 32 (by decide), o1 33 (by decide), o1 34 (by decide)] at this
    exact this
  · unfold agC
    have e1 := o6 24 (by decide)
    simp only [k_put_at, e1]
    exact ⟨rfl, rfl, rfl, rfl, rfl, rfl⟩
  · rw [k_put_ne (by decide), u1 13 (by decide) (by decide), t1 13 (by decide) (by decide), s1 13 (by decide) (by decide), r2, o2 36 (by decide), o1 36 (by decide)]
  · rw [k_put_ne (by decide), u1 14 (by decide) (by decide), t1 14 (by decide) (by decide), s1 14 (by decide) (by decide), r3 j (by rw [o2 36 (by decide), o1 36 (by decide)]; exact hj), o2 37 (by decide), o1 37 (by decide)]
  · rw [k_put_ne (by decide), u1 17 (by decide) (by decide), t1 17 (by decide) (by decide), s2, r1 40 (by decide) (by decide), o2 40 (by decide), o1 40 (by decide)]
  · rw [k_put_ne (by decide), u1 18 (by decide) (by decide), t1 18 (by decide) (by decide), s3 j (by rw [r1 40 (by decide) (by decide), o2 40 (by decide), o1 40 (by decide)]; exact hj), r1 41 (by decide) (by decide), o2 41 (by decide), o1 41 (by decide)]
  · rw [k_put_ne (by decide), u1 20 (by decide) (by decide), t2, s1 43 (by decide) (by decide), r1 43 (by decide) (by decide), o2 43 (by decide), o1 43 (by decide)]
  · rw [k_put_ne (by decide), u1 21 (by decide) (by decide), t3 j (by rw [s1 43 (by decide) (by decide), r1 43 (by decide) (by decide), o2 43 (by decide), o1 43 (by decide)]; exact hj), s1 44 (by decide) (by decide), r1 44 (by decide) (by decide), o2 44 (by decide), o1 44 (by decide)]
  · rw [k_put_ne (by decide), u2, t1 45 (by decide) (by decide), s1 45 (by decide) (by decide), r1 45 (by decide) (by decide), o2 45 (by decide), o1 45 (by decide)]
  · rw [k_put_ne (by decide), u3 j (by rw [t1 45 (by decide) (by decide), s1 45 (by decide) (by decide), r1 45 (by decide) (by decide), o2 45 (by decide), o1 45 (by decide)]; exact hj), t1 46 (by decide) (by decide), s1 46 (by decide) (by decide), r1 46 (by decide) (by decide), o2 46 (by decide), o1 46 (by decide)]
theorem P_image (hR : RR σ τ) (h : ∀ v σ' τ', RR σ' τ' → Z v v σ' τ') : CallI E shC (d + 2) mX10_image [.ref 0] σ (fun v σ' => CallI E' shR (d' + 1) mX11_image [.ref 0] τ (fun w τ' => Z v w σ' τ')) := by
  obtain ⟨⟨h1, h2⟩, ⟨h3, h4⟩, h5, h6, h7⟩ := id hR
  refine vc_SD_image (T_toImage h1.rg (fun σ1 e1 a1 => ?_))
  rintro _ rfl
  refine vc_Md_image (T_copy_1_2 (fun g hg => ?_))
  rintro _ rfl
  rw [k_put_at, upd_at, k_put_at, upd_at, k_put_ne (by decide : (0 : Nat) ≠ 2), h3, e1 0 (by decide)]
  refine h _ _ _ ⟨⟨?_, ?_⟩, ⟨?_, fun _ => ⟨?_, ?_⟩⟩, ?_, ?_, ?_⟩
  · show RW _ (τ 1)
    exact h1.congr (fun i q => by
      have : 1 ≤ i ∧ i ≤ 23 := by revert i; decide
      rw [k_put_ne (by omega)]; exact e1 i (by omega))
  · unfold nT; rw [k_put_ne (by decide), e1 1 (by decide)]; exact h2
  · rw [k_put_at, upd_at, k_put_at, upd_at]
  · have w := (h1.ag a1).row (row' := g) hg
    have ew : RW (k_sh (k_put σ1 0 (upd (σ 0) 7 (σ 0 7 + nI 1)))) g := w
    show RW _ (k_put (k_put τ 2 g) 0 _ 2)
    rw [k_put_ne (by decide), k_put_at]
    exact ew
  · have : nT (k_sh σ1) = nT σ := by
      unfold nT
      rw [a1.2.2.1.1]
    show nT (k_sh σ1) < 10000
    rw [this]; exact h2
  · intro k hk
    show τ 4 k = σ1 63 k
    rw [e1 63 (by decide)]; exact h5 k hk
  · show RS σ1 τ
    unfold RS
    rw [e1 60 (by decide), e1 61 (by decide), e1 62 (by decide)]; exact h6
  · obtain ⟨⟨a, b⟩, c⟩ := h7
    refine ⟨⟨?_, ?_⟩, fun j hj => ?_⟩
    · show k_lt (σ1 57 1) 31
      rw [e1 57 (by decide)]; exact a
    · show τ 0 22 = σ1 57 1
      rw [e1 57 (by decide)]; exact b
    · show τ 14 j = σ1 58 j
      rw [e1 58 (by decide)]; exact c j hj
theorem P_restore (hR : RR σ τ) (h : ∀ v σ' τ', RR σ' τ' → Z v v σ' τ') : CallI E shC (d + 2) mX10_restore [.ref 0] σ (fun v σ' => CallI E' shR (d' + 1) mX11_restore [.ref 0] τ (fun w τ' => Z v w σ' τ')) := by
  obtain ⟨⟨h1, h2⟩, ⟨h3, h4⟩, h5, h6, h7⟩ := id hR
  refine vc_SD_restore ⟨fun q => ?_, fun q => T_err (by decide) ?_⟩
  · obtain ⟨w, wt⟩ := h4 q
    refine T_toNow w.rg (fun σ1 e1 a1 => vc_Md_restore ⟨fun _ => T_copy_2_1 (fun g hg => ?_), fun z => absurd (by rw [← h3]; exact z) q⟩)
    simp (disch := omega) only [nI_clamp, nI_add, pk_mul, pk_sub, ↓pk_rem, pk_div, k_mod, k_m1, nI_ltI, nI_leI, nI_eq, k_n0lt, k_nle0, k_0ltn, k_0len, k_n0eq, k_vin, Nat.reduceAdd, Nat.reduceMul, Nat.reduceLT, Nat.reduceLeDiff, Nat.reduceSub, Nat.reduceEqDiff, Nat.zero_add, Nat.add_zero, k_put_at]
    refine ⟨trivial, ?_⟩
    have w1 := (w.ag a1).row (row' := g) hg
    rw [show g 0 = σ1 1 6 from w1.rc.1]
    refine h _ _ _ ⟨⟨by rw [k_put_at]; exact w1, ?_⟩, ⟨?_, ?_⟩, ?_, ?_, ?_⟩
    · have : nT σ1 = nT (k_sh σ) := by
        unfold nT
        rw [a1.2.2.1.1]
      rw [this]; exact wt
    · rw [k_put_ne (by decide), e1 0 (by decide)]; exact h3
    · rw [e1 0 (by decide), k_put_ne (by decide)]
      intro q
      have eS : ∀ i, 1 ≤ i → k_sh σ1 i = k_sh σ i := fun i hi => e1 (i + 23) (by omega)
      refine ⟨w.congr (fun i q => eS i (by revert i; decide)), ?_⟩
      unfold nT at *
      rw [eS 1 (by decide)]; exact wt
    · rw [k_put_ne (by decide), e1 63 (by decide)]; exact h5
    · unfold RS
      rw [k_put_ne (by decide), k_put_ne (by decide), k_put_ne (by decide), e1 60 (by decide), e1 61 (by decide), e1 62 (by decide)]; exact h6
    · unfold RV
      rw [k_put_ne (by decide), k_put_ne (by decide), e1 57 (by decide), e1 58 (by decide)]; exact h7
  · exact vc_Md_restore ⟨fun z => absurd (by rw [h3]; exact q) z, fun _ => T_Merr2 (h _ _ _ (hR.err (by decide)))⟩
end P37
