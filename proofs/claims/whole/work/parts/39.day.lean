/-! promise 18: a day goes -/
theorem lvF_lt {σ : Sg} {p q : Nat} (hA : IvA σ) (hp : p < 6) (hq : q < 28) : k_lt (lvF σ p q) 20 := by
  obtain ⟨⟨⟨k, hk, ek⟩, ⟨m, hm, em⟩, -, -⟩, h7⟩ := hA.2 p hp
  obtain ⟨t, ht, et⟩ := h7 q hq
  unfold lvF
  rw [ek, em, et]
  unfold livesF
  have hw : q % 7 < 7 := Nat.mod_lt _ (by decide)
  generalize q % 7 = w at hw
  simp (disch := omega) only [nI_clamp, nI_add, pk_mul, pk_sub, ↓pk_rem, pk_div, k_mod, k_m1, nI_ltI, nI_leI, nI_eq, k_n0lt, k_nle0, k_0ltn, k_0len, k_n0eq, k_vin, Nat.reduceAdd, Nat.reduceMul, Nat.reduceLT, Nat.reduceLeDiff, Nat.reduceSub, Nat.reduceEqDiff, Nat.zero_add, Nat.add_zero]
  repeat' split
  all_goals first
    | (rw [k_lt_nI (by omega) (by decide)]; omega)
    | (simp (disch := omega) only [nI_clamp, nI_add, pk_mul, pk_sub, ↓pk_rem, pk_div, k_mod, k_m1, nI_ltI, nI_leI, nI_eq, k_n0lt, k_nle0, k_0ltn, k_0len, k_n0eq, k_vin, Nat.reduceAdd, Nat.reduceMul, Nat.reduceLT, Nat.reduceLeDiff, Nat.reduceSub, Nat.reduceEqDiff, Nat.zero_add, Nat.add_zero]; rw [k_lt_nI (by omega) (by decide)]; omega)
    | exact ⟨0, by decide, rfl⟩
    | exact ⟨1, by decide, rfl⟩
abbrev capF (x : Int32) : Int32 := heldF x (nI 9999)
theorem older_eq {x y : Int32} (hx : k_lt x 10000) (hy : k_lt y 20) : (if (x + y) < (nI 9999) then (x + y) else (nI 9999)) = capF (x + y) := by
  obtain ⟨a, ha, rfl⟩ := hx
  obtain ⟨b, hb, rfl⟩ := hy
  unfold capF heldF
  simp (disch := omega) only [nI_clamp, nI_add, pk_mul, pk_sub, ↓pk_rem, pk_div, k_mod, k_m1, nI_ltI, nI_leI, nI_eq, k_n0lt, k_nle0, k_0ltn, k_0len, k_n0eq, k_vin, Nat.reduceAdd, Nat.reduceMul, Nat.reduceLT, Nat.reduceLeDiff, Nat.reduceSub, Nat.reduceEqDiff, Nat.zero_add, Nat.add_zero]
  by_cases c : a + b < 9999
  · rw [if_pos c, if_neg (show ¬ 9999 < a + b by omega)]
    simp (disch := omega) only [nI_clamp, nI_add, pk_mul, pk_sub, ↓pk_rem, pk_div, k_mod, k_m1, nI_ltI, nI_leI, nI_eq, k_n0lt, k_nle0, k_0ltn, k_0len, k_n0eq, k_vin, Nat.reduceAdd, Nat.reduceMul, Nat.reduceLT, Nat.reduceLeDiff, Nat.reduceSub, Nat.reduceEqDiff, Nat.zero_add, Nat.add_zero]
    rw [if_neg (by omega)]
  · rw [if_neg c]
    by_cases c2 : 9999 < a + b
    · rw [if_pos c2]
      rfl
    · rw [if_neg c2]
      have : a + b = 9999 := by omega
      rw [this]
      rfl
theorem poorer_eq {x y : Int32} (hx : k_lt x 10000) (hy : k_lt y 1000) : (if (nI 0) < (x - y) then (x - y) else (nI 0)) = capF (x - y) := by
  obtain ⟨a, ha, rfl⟩ := hx
  obtain ⟨b, hb, rfl⟩ := hy
  have t := k_subI (a := a) (b := b) (by omega) (by omega)
  have t0 : (nI 0).toInt = 0 := by decide
  have t9 : (nI 9999).toInt = 9999 := by decide
  unfold capF heldF
  rw [if_neg (show ¬ nI 9999 < nI a - nI b by rw [k_lti]; omega)]
  by_cases c : nI 0 < nI a - nI b
  · rw [if_pos c, if_neg (by rw [k_lti] at c ⊢; omega)]
  · rw [if_neg c]
    split
    · rfl
    · next c2 => rw [k_lti] at c c2; apply k_eqi.mpr; omega
theorem capF_lt (x : Int32) : k_lt (capF x) 10000 := heldF_lt (by decide)
theorem more_eq {x : Int32} (hx : k_lt x 10000) : (if (x + (nI 1)) < (nI 9999) then (x + (nI 1)) else (nI 9999)) = capF (x + nI 1) := older_eq hx ⟨1, by decide, rfl⟩
theorem RW.upC7 {σ : Sg} {row : Nat → Int32} {v : Int32} (h : RW σ row) (hv : k_lt v 10000) : RW (k_put σ 1 (upd (σ 1) 7 v)) (upd row 4 v) := by
  obtain ⟨h1, h2, h3, h4, h5, h6, h7, h8⟩ := h
  obtain ⟨a1, a2, a3, a4, a5, a6⟩ := h6
  obtain ⟨b1, b2, b3, b4, b5⟩ := h5
  refine ⟨h1.fr (fun i a b => k_put_ne (by omega)), h2.fr (fun i a b => k_put_ne (by omega)) (fun j a => upd_ne (by omega)), h3.fr (by rw [k_put_ne (by decide)]) (fun i a b => k_put_ne (by omega)), h4.fr (fun i a b => k_put_ne (by omega)) (fun j a => upd_ne (by omega)), ?_, ?_,
    h7.fr (fun i a b => k_put_ne (by omega)) (fun j a => upd_ne (by omega)), h8.fr (fun i a => k_put_ne (by omega)) (fun j a b => upd_ne (by omega))⟩
  · unfold IvC
    rw [k_put_at]
    refine ⟨?_, ?_, ?_, ?_, ?_⟩
    all_goals first | (rw [upd_at]; exact hv) | (rw [upd_ne (by decide)]; assumption)
  · unfold RC
    rw [k_put_at]
    refine ⟨?_, ?_, ?_, ?_, ?_, ?_⟩
    all_goals first | (rw [upd_at, upd_at]) | (rw [upd_ne (by decide), upd_ne (by decide)]; assumption)
theorem RW.upC8 {σ : Sg} {row : Nat → Int32} {v : Int32} (h : RW σ row) (hv : k_lt v 10000) : RW (k_put σ 1 (upd (σ 1) 8 v)) (upd row 5 v) := by
  obtain ⟨h1, h2, h3, h4, h5, h6, h7, h8⟩ := h
  obtain ⟨a1, a2, a3, a4, a5, a6⟩ := h6
  obtain ⟨b1, b2, b3, b4, b5⟩ := h5
  refine ⟨h1.fr (fun i a b => k_put_ne (by omega)), h2.fr (fun i a b => k_put_ne (by omega)) (fun j a => upd_ne (by omega)), h3.fr (by rw [k_put_ne (by decide)]) (fun i a b => k_put_ne (by omega)), h4.fr (fun i a b => k_put_ne (by omega)) (fun j a => upd_ne (by omega)), ?_, ?_,
    h7.fr (fun i a b => k_put_ne (by omega)) (fun j a => upd_ne (by omega)), h8.fr (fun i a => k_put_ne (by omega)) (fun j a b => upd_ne (by omega))⟩
  · unfold IvC
    rw [k_put_at]
    refine ⟨?_, ?_, ?_, ?_, ?_⟩
    all_goals first | (rw [upd_at]; exact hv) | (rw [upd_ne (by decide)]; assumption)
  · unfold RC
    rw [k_put_at]
    refine ⟨?_, ?_, ?_, ?_, ?_, ?_⟩
    all_goals first | (rw [upd_at, upd_at]) | (rw [upd_ne (by decide), upd_ne (by decide)]; assumption)
theorem RW.upC9 {σ : Sg} {row : Nat → Int32} {v : Int32} (h : RW σ row) (hv : k_lt v 10000) : RW (k_put σ 1 (upd (σ 1) 9 v)) (upd row 6 v) := by
  obtain ⟨h1, h2, h3, h4, h5, h6, h7, h8⟩ := h
  obtain ⟨a1, a2, a3, a4, a5, a6⟩ := h6
  obtain ⟨b1, b2, b3, b4, b5⟩ := h5
  refine ⟨h1.fr (fun i a b => k_put_ne (by omega)), h2.fr (fun i a b => k_put_ne (by omega)) (fun j a => upd_ne (by omega)), h3.fr (by rw [k_put_ne (by decide)]) (fun i a b => k_put_ne (by omega)), h4.fr (fun i a b => k_put_ne (by omega)) (fun j a => upd_ne (by omega)), ?_, ?_,
    h7.fr (fun i a b => k_put_ne (by omega)) (fun j a => upd_ne (by omega)), h8.fr (fun i a => k_put_ne (by omega)) (fun j a b => upd_ne (by omega))⟩
  · unfold IvC
    rw [k_put_at]
    refine ⟨?_, ?_, ?_, ?_, ?_⟩
    all_goals first | (rw [upd_at]; exact hv) | (rw [upd_ne (by decide)]; assumption)
  · unfold RC
    rw [k_put_at]
    refine ⟨?_, ?_, ?_, ?_, ?_, ?_⟩
    all_goals first | (rw [upd_at, upd_at]) | (rw [upd_ne (by decide), upd_ne (by decide)]; assumption)
theorem RW.upC10 {σ : Sg} {row : Nat → Int32} {v : Int32} (h : RW σ row) (hv : k_lt v 10000) : RW (k_put σ 1 (upd (σ 1) 10 v)) (upd row 7 v) := by
  obtain ⟨h1, h2, h3, h4, h5, h6, h7, h8⟩ := h
  obtain ⟨a1, a2, a3, a4, a5, a6⟩ := h6
  obtain ⟨b1, b2, b3, b4, b5⟩ := h5
  refine ⟨h1.fr (fun i a b => k_put_ne (by omega)), h2.fr (fun i a b => k_put_ne (by omega)) (fun j a => upd_ne (by omega)), h3.fr (by rw [k_put_ne (by decide)]) (fun i a b => k_put_ne (by omega)), h4.fr (fun i a b => k_put_ne (by omega)) (fun j a => upd_ne (by omega)), ?_, ?_,
    h7.fr (fun i a b => k_put_ne (by omega)) (fun j a => upd_ne (by omega)), h8.fr (fun i a => k_put_ne (by omega)) (fun j a b => upd_ne (by omega))⟩
  · unfold IvC
    rw [k_put_at]
    refine ⟨?_, ?_, ?_, ?_, ?_⟩
    all_goals first | (rw [upd_at]; exact hv) | (rw [upd_ne (by decide)]; assumption)
  · unfold RC
    rw [k_put_at]
    refine ⟨?_, ?_, ?_, ?_, ?_, ?_⟩
    all_goals first | (rw [upd_at, upd_at]) | (rw [upd_ne (by decide), upd_ne (by decide)]; assumption)
theorem RW.upC6 {σ : Sg} {row : Nat → Int32} {v : Int32} (h : RW σ row) (hv : k_lt v 20000) : RW (k_put σ 1 (upd (σ 1) 6 v)) (upd row 0 v) := by
  obtain ⟨h1, h2, h3, h4, h5, h6, h7, h8⟩ := h
  obtain ⟨a1, a2, a3, a4, a5, a6⟩ := h6
  obtain ⟨b1, b2, b3, b4, b5⟩ := h5
  refine ⟨h1.fr (fun i a b => k_put_ne (by omega)), h2.fr (fun i a b => k_put_ne (by omega)) (fun j a => upd_ne (by omega)), h3.fr (by rw [k_put_ne (by decide)]) (fun i a b => k_put_ne (by omega)), h4.fr (fun i a b => k_put_ne (by omega)) (fun j a => upd_ne (by omega)), ?_, ?_,
    h7.fr (fun i a b => k_put_ne (by omega)) (fun j a => upd_ne (by omega)), h8.fr (fun i a => k_put_ne (by omega)) (fun j a b => upd_ne (by omega))⟩
  · unfold IvC
    rw [k_put_at]
    refine ⟨?_, ?_, ?_, ?_, ?_⟩
    all_goals first | (rw [upd_at]; exact hv) | (rw [upd_ne (by decide)]; assumption)
  · unfold RC
    rw [k_put_at]
    refine ⟨?_, ?_, ?_, ?_, ?_, ?_⟩
    all_goals first | (rw [upd_at, upd_at]) | (rw [upd_ne (by decide), upd_ne (by decide)]; assumption)
/-- somebody lives a day -/
def lv2 (σ : Sg) (p d : Nat) : Sg := k_put (k_put σ 5 (upd (σ 5) p (capF (σ 5 p + lvF σ p d)))) 6 (upd (σ 6) p (capF (σ 6 p - duF σ (σ 5 p) (σ 1 6) (σ 6 p))))
def lv1 (σ : Sg) (p d : Nat) : Sg := if σ 7 (p * 28 + d) ≤ nI 1 then lv2 σ p d else k_put (lv2 σ p d) 1 (upd (σ 1) 7 (capF (σ 1 7 + nI 1)))
def lvN (σ : Sg) (d : Nat) : Nat → Sg
  | 0 => σ
  | p + 1 => if lvF σ p d ≤ 0 then lvN σ d p else lv1 (lvN σ d p) p d
def upF (σ : Sg) (d : Nat) : Nat → Nat
  | 0 => 0
  | p + 1 => if lvF σ p d ≤ 0 then upF σ d p else upF σ d p + 1
noncomputable def st1 (σ : Sg) (d k : Nat) : Sg := if σ 11 k = nI d then (@ite Sg (keptF σ k) (Classical.propDecidable _) (k_put σ 1 (upd (σ 1) 8 (capF (σ 1 8 + nI 1)))) (k_put σ 1 (upd (σ 1) 9 (capF (σ 1 9 + nI 1))))) else σ
noncomputable def stN (σ : Sg) (d : Nat) : Nat → Sg
  | 0 => σ
  | k + 1 => st1 (stN σ d k) d k
def ln1 (σ : Sg) (u : Nat) : Sg := if u = 0 then k_put σ 1 (upd (σ 1) 10 (capF (σ 1 10 + nI 1))) else σ
def td1 (σ : Sg) : Sg := k_put σ 1 (upd (σ 1) 6 (σ 1 6 + nI 1))
noncomputable def dyF (σ : Sg) : Sg := td1 (ln1 (stN (lvN σ (nT σ % 28) (nP σ)) (nT σ % 28) (nQ σ)) (upF σ (nT σ % 28) (nP σ)))
theorem upF_le (σ : Sg) (d : Nat) : ∀ p, upF σ d p ≤ p
  | 0 => Nat.le_refl _
  | p + 1 => by
    have := upF_le σ d p
    simp only [upF]
    split <;> omega
/-- the same with other piles -/
theorem lvF_c {σ σ' : Sg} (e : eqC σ σ') (p q : Nat) : lvF σ' p q = lvF σ p q := by
  unfold lvF
  rw [e 3 (by decide), e 4 (by decide), e 7 (by decide)]
theorem duF_c {σ σ' : Sg} (e : eqC σ σ') (a b c : Int32) : duF σ' a b c = duF σ a b c := by
  unfold duF
  rw [e 17 (by decide), e 18 (by decide)]
theorem lv1_c {σ σ' : Sg} (e : eqC σ σ') (p d : Nat) : eqC (lv1 σ p d) (lv1 σ' p d) := by
  unfold lv1 lv2
  rw [lvF_c e, duF_c e, e 7 (by decide), e 5 (by decide), e 6 (by decide), e 1 (by decide)]
  split
  · exact e.put2.put2
  · exact e.put2.put2.put2
theorem lvN_c {σ σ' : Sg} (e : eqC σ σ') (d : Nat) : ∀ p, eqC (lvN σ d p) (lvN σ' d p)
  | 0 => e
  | p + 1 => by
    simp only [lvN, lvF_c e]
    split
    · exact lvN_c e d p
    · exact lv1_c (lvN_c e d p) p d
theorem upF_c {σ σ' : Sg} (e : eqC σ σ') (d : Nat) : ∀ p, upF σ' d p = upF σ d p
  | 0 => rfl
  | p + 1 => by simp only [upF, lvF_c e, upF_c e d p]
theorem keptF_c {σ σ' : Sg} (e : eqC σ σ') (k : Nat) : keptF σ' k = keptF σ k := by
  unfold keptF
  rw [lvF_c e, lvF_c e, e 9 (by decide), e 10 (by decide), e 11 (by decide)]
theorem st1_c {σ σ' : Sg} (e : eqC σ σ') (d k : Nat) : eqC (st1 σ d k) (st1 σ' d k) := by
  unfold st1
  rw [keptF_c e, e 11 (by decide), e 1 (by decide)]
  split
  · split
    · exact e.put2
    · exact e.put2
  · exact e
theorem stN_c {σ σ' : Sg} (e : eqC σ σ') (d : Nat) : ∀ k, eqC (stN σ d k) (stN σ' d k)
  | 0 => e
  | k + 1 => st1_c (stN_c e d k) d k
theorem ln1_c {σ σ' : Sg} (e : eqC σ σ') (u : Nat) : eqC (ln1 σ u) (ln1 σ' u) := by
  unfold ln1
  rw [e 1 (by decide)]
  split
  · exact e.put2
  · exact e
theorem td1_c {σ σ' : Sg} (e : eqC σ σ') : eqC (td1 σ) (td1 σ') := by
  unfold td1
  rw [e 1 (by decide)]
  exact e.put2
theorem dyF_c {σ σ' : Sg} (e : eqC σ σ') : eqC (dyF σ) (dyF σ') := by
  have e1 : nT σ' = nT σ := by unfold nT; rw [e 1 (by decide)]
  have e2 : nP σ' = nP σ := by unfold nP; rw [e 2 (by decide)]
  have e3 : nQ σ' = nQ σ := by unfold nQ; rw [e 8 (by decide)]
  unfold dyF
  rw [e1, e2, e3, upF_c e]
  exact td1_c (ln1_c (stN_c (lvN_c e _ _) _ _) _)
/-- what a day leaves -/
theorem lv1_ne {σ : Sg} {p d i : Nat} (h1 : i ≠ 1) (h5 : i ≠ 5) (h6 : i ≠ 6) : lv1 σ p d i = σ i := by
  unfold lv1 lv2
  split
  · rw [k_put_ne h6, k_put_ne h5]
  · rw [k_put_ne h1, k_put_ne h6, k_put_ne h5]
theorem lvN_ne {σ : Sg} {d i : Nat} (h1 : i ≠ 1) (h5 : i ≠ 5) (h6 : i ≠ 6) : ∀ p, lvN σ d p i = σ i
  | 0 => rfl
  | p + 1 => by
    simp only [lvN]
    split
    · exact lvN_ne h1 h5 h6 p
    · rw [lv1_ne h1 h5 h6]; exact lvN_ne h1 h5 h6 p
theorem lv1_6 {σ : Sg} {p d : Nat} : lv1 σ p d 1 6 = σ 1 6 := by
  unfold lv1 lv2
  split
  · rfl
  · rw [k_put_at, upd_ne (by decide)]
theorem lvN_6 {σ : Sg} {d : Nat} : ∀ p, lvN σ d p 1 6 = σ 1 6
  | 0 => rfl
  | p + 1 => by
    simp only [lvN]
    split
    · exact lvN_6 p
    · rw [lv1_6]; exact lvN_6 p
theorem lvF_N {σ : Sg} {d p q r : Nat} : lvF (lvN σ d r) p q = lvF σ p q := by
  unfold lvF
  rw [lvN_ne (by decide) (by decide) (by decide), lvN_ne (by decide) (by decide) (by decide), lvN_ne (by decide) (by decide) (by decide)]
theorem st1_ne {σ : Sg} {d k i : Nat} (h1 : i ≠ 1) : st1 σ d k i = σ i := by
  unfold st1
  split
  · split
    · exact k_put_ne h1
    · exact k_put_ne h1
  · rfl
theorem st1_6 {σ : Sg} {d k : Nat} : st1 σ d k 1 6 = σ 1 6 := by
  unfold st1
  split
  · split
    · rw [k_put_at, upd_ne (by decide)]
    · rw [k_put_at, upd_ne (by decide)]
  · rfl
theorem stN_ne {σ : Sg} {d i : Nat} (h1 : i ≠ 1) : ∀ k, stN σ d k i = σ i
  | 0 => rfl
  | k + 1 => by simp only [stN]; rw [st1_ne h1]; exact stN_ne h1 k
theorem stN_6 {σ : Sg} {d : Nat} : ∀ k, stN σ d k 1 6 = σ 1 6
  | 0 => rfl
  | k + 1 => by simp only [stN]; rw [st1_6]; exact stN_6 k
theorem ln1_ne {σ : Sg} {u i : Nat} (h1 : i ≠ 1) : ln1 σ u i = σ i := by
  unfold ln1
  split
  · exact k_put_ne h1
  · rfl
theorem ln1_6 {σ : Sg} {u : Nat} : ln1 σ u 1 6 = σ 1 6 := by
  unfold ln1
  split
  · rw [k_put_at, upd_ne (by decide)]
  · rfl
theorem dyF_ne {σ : Sg} {i : Nat} (h1 : i ≠ 1) (h5 : i ≠ 5) (h6 : i ≠ 6) : dyF σ i = σ i := by
  unfold dyF td1
  rw [k_put_ne h1, ln1_ne h1, stN_ne h1, lvN_ne h1 h5 h6]
theorem dyF_6 {σ : Sg} : dyF σ 1 6 = σ 1 6 + nI 1 := by
  unfold dyF td1
  rw [k_put_at, upd_at, ln1_6, stN_6, lvN_6]
theorem nT_eq {σ : Sg} (hC : IvC σ) : σ 1 6 = nI (nT σ) ∧ nT σ < 20000 := by
  have := cl_lt hC.1 (by decide)
  exact ⟨this.2, this.1⟩
theorem dyF_T {σ : Sg} (hC : IvC σ) (ht : nT σ < 19999) : nT (dyF σ) = nT σ + 1 := by
  have e := (nT_eq hC).1
  show cl (dyF σ 1 6) = _
  rw [dyF_6, e]
  simp (disch := omega) only [nI_clamp, nI_add, pk_mul, pk_sub, ↓pk_rem, pk_div, k_mod, k_m1, nI_ltI, nI_leI, nI_eq, k_n0lt, k_nle0, k_0ltn, k_0len, k_n0eq, k_vin, Nat.reduceAdd, Nat.reduceMul, Nat.reduceLT, Nat.reduceLeDiff, Nat.reduceSub, Nat.reduceEqDiff, Nat.zero_add, Nat.add_zero]
/-- the relation goes with it -/
def RE (σ : Sg) : Prop := ∃ row, RW σ row
theorem RW.liv {σ : Sg} {row : Nat → Int32} {p d : Nat} (h : RW σ row) (hp : p < 6) : RW (lv1 σ p d) (if σ 7 (p * 28 + d) ≤ nI 1 then (upd (upd row (10 + 32 * p + 2) (capF (σ 5 p + lvF σ p d))) (10 + 32 * p + 3) (capF (σ 6 p - duF σ (σ 5 p) (σ 1 6) (σ 6 p)))) else upd (upd (upd row (10 + 32 * p + 2) (capF (σ 5 p + lvF σ p d))) (10 + 32 * p + 3) (capF (σ 6 p - duF σ (σ 5 p) (σ 1 6) (σ 6 p)))) 4 (capF (σ 1 7 + nI 1))) := by
  have h2 : RW (lv2 σ p d) (upd (upd row (10 + 32 * p + 2) (capF (σ 5 p + lvF σ p d))) (10 + 32 * p + 3) (capF (σ 6 p - duF σ (σ 5 p) (σ 1 6) (σ 6 p)))) := (h.up5 hp (capF_lt _)).up6 hp (capF_lt _)
  unfold lv1
  split
  · exact h2
  · exact h2.upC7 (capF_lt _)
theorem RE.livN {σ : Sg} (h : RE σ) (d : Nat) : ∀ p, p ≤ 6 → RE (lvN σ d p)
  | 0, _ => h
  | p + 1, hp => by
    have ih := RE.livN h d p (by omega)
    simp only [lvN]
    split
    · exact ih
    · obtain ⟨row, ih⟩ := ih
      exact ⟨_, ih.liv (by omega)⟩
theorem RW.sett {σ : Sg} {row : Nat → Int32} {d k : Nat} (h : RW σ row) : RW (st1 σ d k) (if σ 11 k = nI d then (@ite (Nat → Int32) (keptF σ k) (Classical.propDecidable _) (upd row 5 (capF (σ 1 8 + nI 1))) (upd row 6 (capF (σ 1 9 + nI 1)))) else row) := by
  unfold st1
  split
  · split
    · exact h.upC8 (capF_lt _)
    · exact h.upC9 (capF_lt _)
  · exact h
theorem RE.settN {σ : Sg} (h : RE σ) (d : Nat) : ∀ k, RE (stN σ d k)
  | 0 => h
  | k + 1 => by
    obtain ⟨row, ih⟩ := RE.settN h d k
    exact ⟨_, ih.sett⟩
