/-! promises 18, 19: days go, sales by draws -/
theorem RE.dy {σ : Sg} (h : RE σ) (ht : nT σ < 19999) : RE (dyF σ) := by
  have h1 := (h.livN (nT σ % 28) (nP σ) (nP_le h.a)).settN (nT σ % 28) (nQ σ)
  have e6 := (nT_eq h.c).1
  unfold dyF
  have h2 : ∀ s, RE s → s 1 6 = nI (nT σ) → RE (td1 s) := by
    rintro s ⟨row, w⟩ e
    have := w.upC6 (v := nI (nT σ + 1)) ⟨_, by omega, rfl⟩
    unfold td1
    rw [e]
    simp (disch := omega) only [nI_clamp, nI_add, pk_mul, pk_sub, ↓pk_rem, pk_div, k_mod, k_m1, nI_ltI, nI_leI, nI_eq, k_n0lt, k_nle0, k_0ltn, k_0len, k_n0eq, k_vin, Nat.reduceAdd, Nat.reduceMul, Nat.reduceLT, Nat.reduceLeDiff, Nat.reduceSub, Nat.reduceEqDiff, Nat.zero_add, Nat.add_zero]
    exact ⟨_, this⟩
  refine h2 _ ?_ (by rw [ln1_6, stN_6, lvN_6, e6])
  obtain ⟨row, w⟩ := h1
  unfold ln1
  split
  · exact ⟨_, w.upC10 (capF_lt _)⟩
  · exact ⟨_, w⟩
noncomputable def dyN (σ : Sg) : Nat → Sg
  | 0 => σ
  | k + 1 => dyF (dyN σ k)
noncomputable def usN (σ : Sg) : Nat → Nat
  | 0 => 0
  | k + 1 => usN σ k + upF (dyN σ k) (nT (dyN σ k) % 28) (nP (dyN σ k))
theorem RE.dyn {σ : Sg} (h : RE σ) : ∀ k, nT σ + k < 19999 → RE (dyN σ k) ∧ nT (dyN σ k) = nT σ + k
  | 0, _ => ⟨h, rfl⟩
  | k + 1, ht => by
    obtain ⟨a, b⟩ := RE.dyn h k (by omega)
    exact ⟨a.dy (by omega), by simp only [dyN]; rw [dyF_T a.c (by omega), b]; omega⟩
theorem dyN_ne {σ : Sg} {i : Nat} (h1 : i ≠ 1) (h5 : i ≠ 5) (h6 : i ≠ 6) : ∀ k, dyN σ k i = σ i
  | 0 => rfl
  | k + 1 => by simp only [dyN]; rw [dyF_ne h1 h5 h6]; exact dyN_ne h1 h5 h6 k
/-- draws -/
def drF (σ : Sg) : Sg := k_put σ 1 (upd (σ 1) 11 (σ 1 11 * nI 1103515245 + nI 12345))
def dvF (σ : Sg) : Int32 := ((σ 1 11 * nI 1103515245 + nI 12345).toUInt32 >>> ((nI 8).toUInt32 &&& Int32.toUInt32 31)).toInt32
def dnF (σ : Sg) : Nat := cl (dvF σ)
theorem dvF_eq (σ : Sg) : dvF σ = nI (dnF σ) ∧ dnF σ < 2 ^ 24 := by
  have key : ∀ x : Int32, k_lt (x.toUInt32 >>> ((nI 8).toUInt32 &&& Int32.toUInt32 31)).toInt32 (2 ^ 24) := by
    intro x
    rw [show ((nI 8).toUInt32 &&& Int32.toUInt32 31) = 8 by decide]
    refine ⟨(x.toUInt32 >>> 8).toNat, ?_, ?_⟩
    · rw [UInt32.toNat_shiftRight]
      have := x.toUInt32.toNat_lt
      rw [show (8 : UInt32).toNat % 32 = 8 by decide, Nat.shiftRight_eq_div_pow]
      omega
    · apply Int32.toBitVec_inj.mp
      show (x.toUInt32 >>> 8).toBitVec = (Int32.ofNat (x.toUInt32 >>> 8).toNat).toBitVec
      rw [Int32.toBitVec_ofNat']
      apply BitVec.eq_of_toNat_eq
      rw [BitVec.toNat_ofNat]
      have := (x.toUInt32 >>> 8).toNat_lt
      rw [Nat.mod_eq_of_lt (by omega)]
      rfl
  have := cl_lt (key (σ 1 11 * nI 1103515245 + nI 12345)) (by decide)
  exact ⟨this.2, this.1⟩
noncomputable def sdF (σ : Sg) : Sg × Nat :=
  if nP σ < 2 then (σ, 0)
  else if dnF σ % nP σ = dnF (drF σ) % nP σ then (drF (drF (drF σ)), 0)
  else @ite (Sg × Nat) (canF (drF (drF (drF σ))) (dnF σ % nP σ) (dnF (drF σ) % nP σ) (dnF (drF (drF σ)) % 28)) (Classical.propDecidable _) (saleF (drF (drF (drF σ))) (dnF σ % nP σ) (dnF (drF σ) % nP σ) (dnF (drF (drF σ)) % 28), 1) (drF (drF (drF σ)), 0)
theorem drF_c {σ σ' : Sg} (e : eqC σ σ') : eqC (drF σ) (drF σ') := by
  unfold drF
  rw [e 1 (by decide)]
  exact e.put2
theorem dnF_c {σ σ' : Sg} (e : eqC σ σ') : dnF σ' = dnF σ := by
  unfold dnF dvF
  rw [e 1 (by decide)]
theorem canF_c {σ σ' : Sg} (e : eqC σ σ') (p o q : Nat) : canF σ' p o q = canF σ p o q := by
  unfold canF
  rw [priceF_c e, e 6 (by decide), e 7 (by decide)]
theorem sdF_c {σ σ' : Sg} (e : eqC σ σ') : eqC (sdF σ).1 (sdF σ').1 ∧ (sdF σ').2 = (sdF σ).2 := by
  have e2 : nP σ' = nP σ := by unfold nP; rw [e 2 (by decide)]
  unfold sdF
  rw [e2, dnF_c e, dnF_c (drF_c e), dnF_c (drF_c (drF_c e)), canF_c (drF_c (drF_c (drF_c e)))]
  split
  · exact ⟨e, rfl⟩
  · split
    · exact ⟨drF_c (drF_c (drF_c e)), rfl⟩
    · split
      · exact ⟨saleF_c (drF_c (drF_c (drF_c e))) _ _ _, rfl⟩
      · exact ⟨drF_c (drF_c (drF_c e)), rfl⟩
theorem drF_ne {σ : Sg} {i : Nat} (h : i ≠ 1) : drF σ i = σ i := k_put_ne h
theorem sdF_ne {σ : Sg} {i : Nat} (h1 : i ≠ 1) (h6 : i ≠ 6) (h7 : i ≠ 7) : (sdF σ).1 i = σ i := by
  unfold sdF
  split
  · rfl
  · split
    · show drF (drF (drF σ)) i = σ i
      rw [drF_ne h1, drF_ne h1, drF_ne h1]
    · split
      · show saleF (drF (drF (drF σ))) _ _ _ i = σ i
        rw [saleF_ne h6 h7, drF_ne h1, drF_ne h1, drF_ne h1]
      · show drF (drF (drF σ)) i = σ i
        rw [drF_ne h1, drF_ne h1, drF_ne h1]
theorem drF_6 {σ : Sg} : drF σ 1 6 = σ 1 6 := by unfold drF; rw [k_put_at, upd_ne (by decide)]
theorem sdF_6 {σ : Sg} : (sdF σ).1 1 6 = σ 1 6 := by
  unfold sdF
  split
  · rfl
  · split
    · show drF (drF (drF σ)) 1 6 = σ 1 6
      rw [drF_6, drF_6, drF_6]
    · split
      · show saleF (drF (drF (drF σ))) (dnF σ % nP σ) (dnF (drF σ) % nP σ) (dnF (drF (drF σ)) % 28) 1 6 = σ 1 6
        rw [saleF_ne (by decide) (by decide), drF_6, drF_6, drF_6]
      · show drF (drF (drF σ)) 1 6 = σ 1 6
        rw [drF_6, drF_6, drF_6]
theorem RW.dr {σ : Sg} {row : Nat → Int32} (h : RW σ row) : RW (drF σ) (upd row 1 (σ 1 11 * nI 1103515245 + nI 12345)) := h.upZ
theorem RE.dr {σ : Sg} (h : RE σ) : RE (drF σ) := by obtain ⟨_, h⟩ := h; exact ⟨_, h.dr⟩
section P41
variable {E E' : KE} {S : Shp} {d d' : Nat} {x1 x2 x3 : Int32} {σ τ : Sg} {Z : Int32 → Int32 → Sg → Sg → Prop} {K : Int32 → Sg → Prop} {L : Sg → Prop}
theorem T_draw (h : K (nI (dnF σ)) (drF σ)) : CallI E shC d mX9_draw [.ref 1] σ K := by
  refine vc_World_draw ?_
  rintro _ rfl
  rw [k_put_at, upd_at]
  rw [← (dvF_eq σ).1] at h
  exact h
theorem T_Mdraw (hW : RW σ (τ 1)) (h : ∀ τ', RW (drF σ) (τ' 1) → eqN τ τ' → K (nI (dnF σ)) τ') : CallI E shR d mX11_draw [.ref 0] τ K := by
  refine vc_Md_draw ?_
  simp (disch := omega) only [nI_clamp, nI_add, pk_mul, pk_sub, ↓pk_rem, pk_div, k_mod, k_m1, nI_ltI, nI_leI, nI_eq, k_n0lt, k_nle0, k_0ltn, k_0len, k_n0eq, k_vin, Nat.reduceAdd, Nat.reduceMul, Nat.reduceLT, Nat.reduceLeDiff, Nat.reduceSub, Nat.reduceEqDiff, Nat.zero_add, Nat.add_zero]
  refine ⟨trivial, trivial, ?_⟩
  rintro _ rfl
  refine ⟨trivial, ?_⟩
  rw [k_put_at, upd_at, hW.rc.2.1]
  rw [← (dvF_eq σ).1] at h
  refine h _ ?_ eqN.put1
  rw [k_put_at]
  exact hW.dr
theorem T_saleByDraws (hE : RE σ) (h : ∀ σ', eqC (sdF σ).1 σ' → K (nI (sdF σ).2) σ') : CallI E shC (d + 5) mX9_saleByDraws [.ref 1] σ K := by
  have hn := nP_le hE.a
  have e2 : σ 2 5 = nI (nP σ) := (cl_lt hE.a.1 (by decide)).2
  have d1 := (dvF_eq σ).2
  have d2 := (dvF_eq (drF σ)).2
  have d3 := (dvF_eq (drF (drF σ))).2
  unfold sdF at h
  refine vc_World_saleByDraws ?_
  rw [e2]
  simp (disch := omega) only [nI_clamp, nI_add, pk_mul, pk_sub, ↓pk_rem, pk_div, k_mod, k_m1, nI_ltI, nI_leI, nI_eq, k_n0lt, k_nle0, k_0ltn, k_0len, k_n0eq, k_vin, Nat.reduceAdd, Nat.reduceMul, Nat.reduceLT, Nat.reduceLeDiff, Nat.reduceSub, Nat.reduceEqDiff, Nat.zero_add, Nat.add_zero]
  refine ⟨fun c => ?_, fun c => ?_⟩
  · rw [if_neg (by omega)] at h
    refine T_draw ?_
    rw [drF_ne (by decide : (2 : Nat) ≠ 1), e2]
    simp (disch := omega) only [nI_clamp, nI_add, pk_mul, pk_sub, ↓pk_rem, pk_div, k_mod, k_m1, nI_ltI, nI_leI, nI_eq, k_n0lt, k_nle0, k_0ltn, k_0len, k_n0eq, k_vin, Nat.reduceAdd, Nat.reduceMul, Nat.reduceLT, Nat.reduceLeDiff, Nat.reduceSub, Nat.reduceEqDiff, Nat.zero_add, Nat.add_zero]
    refine ⟨by omega, T_draw ?_⟩
    rw [drF_ne (by decide : (2 : Nat) ≠ 1), drF_ne (by decide : (2 : Nat) ≠ 1), e2]
    simp (disch := omega) only [nI_clamp, nI_add, pk_mul, pk_sub, ↓pk_rem, pk_div, k_mod, k_m1, nI_ltI, nI_leI, nI_eq, k_n0lt, k_nle0, k_0ltn, k_0len, k_n0eq, k_vin, Nat.reduceAdd, Nat.reduceMul, Nat.reduceLT, Nat.reduceLeDiff, Nat.reduceSub, Nat.reduceEqDiff, Nat.zero_add, Nat.add_zero]
    refine ⟨by omega, T_draw ?_⟩
    have l1 : dnF σ % nP σ < nP σ := Nat.mod_lt _ (by omega)
    have l2 : dnF (drF σ) % nP σ < nP σ := Nat.mod_lt _ (by omega)
    have l3 : dnF (drF (drF σ)) % 28 < 28 := Nat.mod_lt _ (by omega)
    have hE3 : RE (drF (drF (drF σ))) := hE.dr.dr.dr
    simp (disch := omega) only [nI_clamp, nI_add, pk_mul, pk_sub, ↓pk_rem, pk_div, k_mod, k_m1, nI_ltI, nI_leI, nI_eq, k_n0lt, k_nle0, k_0ltn, k_0len, k_n0eq, k_vin, Nat.reduceAdd, Nat.reduceMul, Nat.reduceLT, Nat.reduceLeDiff, Nat.reduceSub, Nat.reduceEqDiff, Nat.zero_add, Nat.add_zero]
    generalize dnF σ % nP σ = p at h l1
    generalize dnF (drF σ) % nP σ = o at h l2
    generalize dnF (drF (drF σ)) % 28 = q at h l3
    generalize drF (drF (drF σ)) = s at h hE3
    try simp (disch := omega) only [nI_clamp, nI_add, pk_mul, pk_sub, ↓pk_rem, pk_div, k_mod, k_m1, nI_ltI, nI_leI, nI_eq, k_n0lt, k_nle0, k_0ltn, k_0len, k_n0eq, k_vin, Nat.reduceAdd, Nat.reduceMul, Nat.reduceLT, Nat.reduceLeDiff, Nat.reduceSub, Nat.reduceEqDiff, Nat.zero_add, Nat.add_zero]
    refine ⟨fun c2 => ?_, fun c2 => T_saleCanBe hE3.x (by omega) (by omega) l3 (fun σ1 e1 => k_ifn (fun c3 => T_makeSale (hE3.x.congr e1) (by omega) (by omega) l3 c2 (fun σ2 e3 => ?_)) (fun c3 => ?_))⟩
    · rw [if_pos c2] at h
      exact h _ eqC.rf
    · rw [if_neg c2, if_pos c3] at h
      exact h _ ((saleF_c e1 p o q).tr e3)
    · rw [if_neg c2, if_neg c3] at h
      exact h _ e1
  · rw [if_pos (by omega)] at h
    exact h _ eqC.rf
theorem T_drawn (hW : RW σ (τ 1)) (c : 2 ≤ nP σ) (h : ∀ τ', RW (sdF σ).1 (τ' 1) → eqN τ τ' → K (nI (sdF σ).2) τ') : CallI E shR (d + 5) mX11_drawn [.ref 0] τ K := by
  have hn := nP_le hW.a
  have e2 : σ 2 5 = nI (nP σ) := (cl_lt hW.a.1 (by decide)).2
  have d1 := (dvF_eq σ).2
  have d2 := (dvF_eq (drF σ)).2
  have d3 := (dvF_eq (drF (drF σ))).2
  have m1 := Nat.div_mul_le_self (dnF σ) (nP σ)
  have m2 := Nat.div_mul_le_self (dnF (drF σ)) (nP σ)
  unfold sdF at h
  rw [if_neg (by omega)] at h
  refine vc_Md_drawn (T_Mdraw hW (fun τ1 w1 f1 => ?_))
  have r1 : τ1 1 2 = nI (nP σ) := by rw [w1.ra.1, drF_ne (by decide : (2 : Nat) ≠ 1), e2]
  simp (disch := omega) only [nI_clamp, nI_add, pk_mul, pk_sub, ↓pk_rem, pk_div, k_mod, k_m1, nI_ltI, nI_leI, nI_eq, k_n0lt, k_nle0, k_0ltn, k_0len, k_n0eq, k_vin, Nat.reduceAdd, Nat.reduceMul, Nat.reduceLT, Nat.reduceLeDiff, Nat.reduceSub, Nat.reduceEqDiff, Nat.zero_add, Nat.add_zero, r1]
  refine ⟨trivial, by omega, T_Mdraw w1 (fun τ2 w2 f2 => ?_)⟩
  have r2 : τ2 1 2 = nI (nP σ) := by rw [w2.ra.1, drF_ne (by decide : (2 : Nat) ≠ 1), drF_ne (by decide : (2 : Nat) ≠ 1), e2]
  simp (disch := omega) only [nI_clamp, nI_add, pk_mul, pk_sub, ↓pk_rem, pk_div, k_mod, k_m1, nI_ltI, nI_leI, nI_eq, k_n0lt, k_nle0, k_0ltn, k_0len, k_n0eq, k_vin, Nat.reduceAdd, Nat.reduceMul, Nat.reduceLT, Nat.reduceLeDiff, Nat.reduceSub, Nat.reduceEqDiff, Nat.zero_add, Nat.add_zero, r2]
  refine ⟨trivial, by omega, T_Mdraw w2 (fun τ3 w3 f3 => ?_)⟩
  have l1 : dnF σ % nP σ < nP σ := Nat.mod_lt _ (by omega)
  have l2 : dnF (drF σ) % nP σ < nP σ := Nat.mod_lt _ (by omega)
  have l3 : dnF (drF (drF σ)) % 28 < 28 := Nat.mod_lt _ (by omega)
  simp (disch := omega) only [nI_clamp, nI_add, pk_mul, pk_sub, ↓pk_rem, pk_div, k_mod, k_m1, nI_ltI, nI_leI, nI_eq, k_n0lt, k_nle0, k_0ltn, k_0len, k_n0eq, k_vin, Nat.reduceAdd, Nat.reduceMul, Nat.reduceLT, Nat.reduceLeDiff, Nat.reduceSub, Nat.reduceEqDiff, Nat.zero_add, Nat.add_zero]
  generalize dnF σ % nP σ = p at h l1
  generalize dnF (drF σ) % nP σ = o at h l2
  generalize dnF (drF (drF σ)) % 28 = q at h l3
  generalize drF (drF (drF σ)) = s at h w3
  try simp (disch := omega) only [nI_clamp, nI_add, pk_mul, pk_sub, ↓pk_rem, pk_div, k_mod, k_m1, nI_ltI, nI_leI, nI_eq, k_n0lt, k_nle0, k_0ltn, k_0len, k_n0eq, k_vin, Nat.reduceAdd, Nat.reduceMul, Nat.reduceLT, Nat.reduceLeDiff, Nat.reduceSub, Nat.reduceEqDiff, Nat.zero_add, Nat.add_zero]
  have f := (f1.tr f2).tr f3
  refine ⟨fun c2 => ?_, fun c2 => T_McanSell w3 (by omega) (by omega) l3 (fun τ4 f4 => k_ifn (fun c3 => ?_) (fun c3 => ?_))⟩
  · rw [if_pos c2] at h
    exact h _ w3 f
  · rw [if_neg c2, if_pos c3] at h
    have w4 : RW s (τ4 1) := by rw [f4 1 rfl]; exact w3
    exact T_Msells w4 (by omega) (by omega) l3 c2 c3 (fun τ5 w5 f5 => h _ w5 ((f.tr f4.n).tr f5))
  · rw [if_neg c2, if_neg c3] at h
    have w4 : RW s (τ4 1) := by rw [f4 1 rfl]; exact w3
    exact h _ w4 (f.tr f4.n)
theorem P_days (hR : RR σ τ) (h : ∀ v σ' τ', RR σ' τ' → Z v v σ' τ') : CallI E shC (d + 6) mX10_days [.ref 0, .int x1] σ (fun v σ' => CallI E' shR (d' + 5) mX11_days [.ref 0, .int x1] τ (fun w τ' => Z v w σ' τ')) := by
  have hE : RE σ := ⟨_, hR.rw⟩
  obtain ⟨e6, -⟩ := nT_eq hE.c
  have e0 : τ 1 0 = nI (nT σ) := hR.rw.rc.1.trans e6
  have hT := hR.1.2
  refine vc_SD_days (T_isWithin (k_ifn (fun q => ?_) (fun q => T_err (by decide) ?_)))
  rotate_left
  · exact vc_Md_days (T_in (k_ifnF q (T_Merr1 (h _ _ _ (hR.err (by decide))))))
  obtain ⟨m, hm1, hm2, rfl⟩ := (k_wi (by decide) (by decide)).mp q
  rw [e6]
  simp (disch := omega) only [nI_clamp, nI_add, pk_mul, pk_sub, ↓pk_rem, pk_div, k_mod, k_m1, nI_ltI, nI_leI, nI_eq, k_n0lt, k_nle0, k_0ltn, k_0len, k_n0eq, k_vin, Nat.reduceAdd, Nat.reduceMul, Nat.reduceLT, Nat.reduceLeDiff, Nat.reduceSub, Nat.reduceEqDiff, Nat.zero_add, Nat.add_zero]
  refine ⟨fun q2 => ?_, fun q2 => T_err (by decide) (vc_Md_days (T_in (k_ifnT q ?_)))⟩
  rotate_left
  · simp (disch := omega) only [nI_clamp, nI_add, pk_mul, pk_sub, ↓pk_rem, pk_div, k_mod, k_m1, nI_ltI, nI_leI, nI_eq, k_n0lt, k_nle0, k_0ltn, k_0len, k_n0eq, k_vin, Nat.reduceAdd, Nat.reduceMul, Nat.reduceLT, Nat.reduceLeDiff, Nat.reduceSub, Nat.reduceEqDiff, Nat.zero_add, Nat.add_zero, e0]
    exact ⟨trivial, fun z => absurd z (by omega), fun _ => T_Merr3 (h _ _ _ (hR.err (by decide)))⟩
  have ref : ∀ σ', eqC (dyN σ m) σ' → CallI E' shR (d' + 5) mX11_days [.ref 0, .int (nI m)] τ (fun w τ' => Z (nI (usN σ m)) w σ' τ') := by
    intro σ' e'
    refine vc_Md_days (T_in (k_ifnT q ?_))
    simp (disch := omega) only [nI_clamp, nI_add, pk_mul, pk_sub, ↓pk_rem, pk_div, k_mod, k_m1, nI_ltI, nI_leI, nI_eq, k_n0lt, k_nle0, k_0ltn, k_0len, k_n0eq, k_vin, Nat.reduceAdd, Nat.reduceMul, Nat.reduceLT, Nat.reduceLeDiff, Nat.reduceSub, Nat.reduceEqDiff, Nat.zero_add, Nat.add_zero, e0]
    refine ⟨trivial, fun _ => ?_, fun z => absurd (by omega) z⟩
    have loop : ∀ r k, k + r = m → ∀ τ1, RW (dyN σ k) (τ1 1) → eqN τ τ1 → WP E' shR mX11_days (d' + 4 + 1) 42 [some (.ref 0), some (.int (nI m)), some (.int (nI (usN σ k))), some (.int (nI k))] [] τ1 (k_qi fun w τ' => Z (nI (usN σ m)) w σ' τ') := by
      intro r
      induction r with
      | zero =>
        intro k hk τ1 w1 f1
        have e : k = m := by omega
        subst e
        apply vb_Md_days_42
        refine ⟨fun _ => h _ _ _ ?_, fun z => absurd (Int32.le_refl _) z⟩
        refine RR.c1 (hR.now2 w1 ?_ (fun i hi => dyN_ne (by omega) (by omega) (by omega) k) f1) e'
        rw [(hE.dyn k (by omega)).2]; omega
      | succ r ih =>
        intro k hk τ1 w1 f1
        have ih := ih (k + 1) (by omega)
        have ht := (hE.dyn k (by omega)).2
        apply vb_Md_days_42
        rw [nI_leI (by omega) (by omega)]
        refine ⟨fun z => absurd z (by omega), fun _ => T_goes w1 (by omega) (fun τ2 w2 f2 => ?_)⟩
        simp (disch := omega) only [nI_clamp, nI_add, pk_mul, pk_sub, ↓pk_rem, pk_div, k_mod, k_m1, nI_ltI, nI_leI, nI_eq, k_n0lt, k_nle0, k_0ltn, k_0len, k_n0eq, k_vin, Nat.reduceAdd, Nat.reduceMul, Nat.reduceLT, Nat.reduceLeDiff, Nat.reduceSub, Nat.reduceEqDiff, Nat.zero_add, Nat.add_zero]
        exact ih _ w2 (f1.tr f2)
    exact loop m 0 (by omega) τ hR.rw eqN.rf
  have loop : ∀ r k, k + r = m → ∀ σ1, eqC (dyN σ k) σ1 → WP E shC mX10_days (d + 5 + 1) 41 [some (.ref 0), some (.int (nI m)), some (.int (nI (usN σ k))), some (.int (nI k))] [] σ1 (k_qi fun v σ' => CallI E' shR (d' + 5) mX11_days [.ref 0, .int (nI m)] τ (fun w τ' => Z v w σ' τ')) := by
    intro r
    induction r with
    | zero =>
      intro k hk σ1 e1
      have e : k = m := by omega
      subst e
      apply vb_SD_days_41
      exact ⟨fun _ => ref _ e1, fun z => absurd (Int32.le_refl _) z⟩
    | succ r ih =>
      intro k hk σ1 e1
      have ih := ih (k + 1) (by omega)
      have ht := hE.dyn k (by omega)
      have a1 : nT σ1 = nT (dyN σ k) := by unfold nT; rw [e1 1 (by decide)]
      have a2 : nP σ1 = nP (dyN σ k) := by unfold nP; rw [e1 2 (by decide)]
      apply vb_SD_days_41
      rw [nI_leI (by omega) (by omega)]
      refine ⟨fun z => absurd z (by omega), fun _ => T_letDayGo (ht.1.e e1) (fun σ2 e3 => ?_)⟩
      rw [a1, a2, upF_c e1]
      simp (disch := omega) only [nI_clamp, nI_add, pk_mul, pk_sub, ↓pk_rem, pk_div, k_mod, k_m1, nI_ltI, nI_leI, nI_eq, k_n0lt, k_nle0, k_0ltn, k_0len, k_n0eq, k_vin, Nat.reduceAdd, Nat.reduceMul, Nat.reduceLT, Nat.reduceLeDiff, Nat.reduceSub, Nat.reduceEqDiff, Nat.zero_add, Nat.add_zero]
      exact ih _ ((dyF_c e1).tr e3)
  exact loop m 0 (by omega) σ eqC.rf
end P41
