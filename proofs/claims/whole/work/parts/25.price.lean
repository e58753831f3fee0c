/-! what a use gives; prices -/
theorem heldC (v m : Int32) : (if nI 0 < (if v < m then v else m) then (if v < m then v else m) else nI 0) = heldF v m := by
  unfold heldF
  have z : (nI 0).toInt = 0 := by decide
  by_cases h1 : v < m
  · have h2 : ¬ m < v := by rw [k_lti] at h1 ⊢; omega
    rw [if_pos h1, if_neg h2]
    by_cases h3 : nI 0 < v
    · rw [if_pos h3, if_neg (by rw [k_lti] at h3 ⊢; omega)]
    · rw [if_neg h3]
      split
      · rfl
      · next h4 => apply k_eqi.mpr; rw [k_lti] at h3 h4; omega
  · rw [if_neg h1]
    have e : (if m < v then m else v) = m := by
      split
      · rfl
      · next h4 => apply k_eqi.mpr; rw [k_lti] at h1 h4; omega
    rw [e]
    by_cases h3 : nI 0 < m
    · rw [if_pos h3, if_neg (by rw [k_lti] at h3 ⊢; omega)]
    · rw [if_neg h3]
      split
      · rfl
      · next h4 => apply k_eqi.mpr; rw [k_lti] at h3 h4; omega
theorem T_held {E : KE} {S : Shp} {d : Nat} {v m : Int32} {σ : Sg} {K : Int32 → Sg → Prop} (h : K (heldF v m) σ) : CallI E S d mX9_held [.int v, .int m] σ K := by
  refine vc_World_held ?_
  rw [heldC]; exact h
theorem T_Mheld {E : KE} {S : Shp} {d : Nat} {v : Int32} {m : Nat} {σ : Sg} {K : Int32 → Sg → Prop} (hm : m < 2 ^ 31) (h : K (heldF v (nI m)) σ) : CallI E S d mX11_held [.int v, .int (nI 0), .int (nI m)] σ K := by
  have z : (nI 0).toInt = 0 := by decide
  have zm := nI_toInt hm
  unfold heldF at h
  refine vc_Md_held ⟨fun q => ⟨fun q2 => ?_, fun q2 => ?_⟩, fun q => ?_⟩
  · rw [if_neg (show ¬ nI m < v by rw [k_lei] at q2; rw [k_lti]; omega), if_neg (by rw [k_lei] at q; rw [k_lti]; omega)] at h; exact h
  · rw [if_pos (show nI m < v by rw [k_lei] at q2; rw [k_lti]; omega), if_neg (by rw [k_lti]; omega)] at h; exact h
  · rw [if_neg (show ¬ nI m < v by rw [k_lei] at q; rw [k_lti]; omega), if_pos (by rw [k_lei] at q; rw [k_lti]; omega)] at h; exact h
def IvX (σ : Sg) : Prop := (k_lt (σ 13 1) 61 ∧ wfS (σ 14) (cl (σ 13 1))) ∧ (k_lt (σ 17 1) 61 ∧ wfS (σ 18) (cl (σ 17 1)))
theorem RX.iv {σ : Sg} {row : Nat → Int32} (h : RX σ row) : IvX σ := ⟨⟨h.1.1, h.1.2.2.2⟩, ⟨h.2.1, h.2.2.2.2⟩⟩
theorem IvX.congr {σ σ' : Sg} (h : IvX σ) (e : eqC σ σ') : IvX σ' := by
  unfold IvX at *
  rw [e 13 (by decide), e 14 (by decide), e 17 (by decide), e 18 (by decide)]; exact h
theorem T_isThere_12 {E : KE} {d : Nat} {σ : Sg} {K : Int32 → Sg → Prop} (hx : k_lt (σ 13 1) 61) (h : K (k_b (1 ≤ cl (σ 13 1))) σ) : CallI E shC d mX6_isThere [.ref 12] σ K := by
  obtain ⟨m, hm, e⟩ := hx
  refine vc_Text_isThere_12 ?_
  rw [e] at h ⊢
  unfold cl at h
  simp (disch := omega) only [nI_clamp, nI_add, pk_mul, pk_sub, ↓pk_rem, pk_div, k_mod, k_m1, nI_ltI, nI_leI, nI_eq, k_n0lt, k_nle0, k_0ltn, k_0len, k_n0eq, k_vin, Nat.reduceAdd, Nat.reduceMul, Nat.reduceLT, Nat.reduceLeDiff, Nat.reduceSub, Nat.reduceEqDiff, Nat.zero_add, Nat.add_zero] at h ⊢
  refine ⟨fun q => ?_, fun q => ?_⟩
  · rw [k_bF (by omega)] at h; exact h
  · rw [k_bT (by omega)] at h; exact h
theorem T_isThere_16 {E : KE} {d : Nat} {σ : Sg} {K : Int32 → Sg → Prop} (hx : k_lt (σ 17 1) 61) (h : K (k_b (1 ≤ cl (σ 17 1))) σ) : CallI E shC d mX6_isThere [.ref 16] σ K := by
  obtain ⟨m, hm, e⟩ := hx
  refine vc_Text_isThere_16 ?_
  rw [e] at h ⊢
  unfold cl at h
  simp (disch := omega) only [nI_clamp, nI_add, pk_mul, pk_sub, ↓pk_rem, pk_div, k_mod, k_m1, nI_ltI, nI_leI, nI_eq, k_n0lt, k_nle0, k_0ltn, k_0len, k_n0eq, k_vin, Nat.reduceAdd, Nat.reduceMul, Nat.reduceLT, Nat.reduceLeDiff, Nat.reduceSub, Nat.reduceEqDiff, Nat.zero_add, Nat.add_zero] at h ⊢
  refine ⟨fun q => ?_, fun q => ?_⟩
  · rw [k_bF (by omega)] at h; exact h
  · rw [k_bT (by omega)] at h; exact h
theorem T_useGives0 {E : KE} {d : Nat} {a b c : Int32} {σ : Sg} {K : Int32 → Sg → Prop} (hx : IvX σ) (h : ∀ σ', eqC σ σ' → K (prF σ a b c) σ') : CallI E shC (d + 2) mX9_useGives [.ref 1, .int (nI 0), .int a, .int b, .int c] σ K := by
  obtain ⟨⟨hx1, hx2⟩, -⟩ := hx
  obtain ⟨m, hm, e⟩ := id hx1
  have ecl : cl (σ 13 1) = m := by rw [e]; exact nI_clamp (by omega)
  unfold prF gvF at h
  rw [ecl] at h hx2
  simp only [if_true] at h
  refine vc_World_useGives ⟨fun q => absurd rfl q, fun _ => ⟨fun q => T_isThere_12 hx1 (k_if (fun p => ?_) (fun p => ?_)), fun q => T_isThere_12 hx1 (k_if (fun p => ?_) (fun p => ?_))⟩⟩
  · rw [ecl] at p
    have h := h σ eqC.rf
    rw [if_pos (by omega), if_pos q] at h; exact h
  · rw [ecl] at p
    refine T_gives_12 e (by omega) (by omega) hx2 (fun g => T_held ?_)
    have h := h (k_put σ 15 g) (eqC.put (by decide))
    rw [if_neg (by omega)] at h; exact h
  · rw [ecl] at p
    have h := h σ eqC.rf
    rw [if_pos (by omega), if_neg q] at h; exact h
  · rw [ecl] at p
    refine T_gives_12 e (by omega) (by omega) hx2 (fun g => T_held ?_)
    have h := h (k_put σ 15 g) (eqC.put (by decide))
    rw [if_neg (by omega)] at h; exact h
theorem T_useGives1 {E : KE} {d : Nat} {a b c : Int32} {σ : Sg} {K : Int32 → Sg → Prop} (hx : IvX σ) (h : ∀ σ', eqC σ σ' → K (duF σ a b c) σ') : CallI E shC (d + 2) mX9_useGives [.ref 1, .int (nI 1), .int a, .int b, .int c] σ K := by
  obtain ⟨-, ⟨hx1, hx2⟩⟩ := hx
  obtain ⟨m, hm, e⟩ := id hx1
  have ecl : cl (σ 17 1) = m := by rw [e]; exact nI_clamp (by omega)
  unfold duF gvF at h
  rw [ecl] at h hx2
  simp only [Nat.reduceEqDiff, if_false] at h
  refine vc_World_useGives ⟨fun _ => T_isThere_16 hx1 (k_if (fun p => ?_) (fun p => ?_)), fun q => absurd q (by decide)⟩
  · rw [ecl] at p
    have h := h σ eqC.rf
    rw [if_pos (by omega)] at h; exact h
  · rw [ecl] at p
    refine T_gives_16 e (by omega) (by omega) hx2 (fun g => T_held ?_)
    have h := h (k_put σ 19 g) (eqC.put (by decide))
    rw [if_neg (by omega)] at h; exact h
theorem T_priceOf {E : KE} {d p q : Nat} {σ : Sg} {K : Int32 → Sg → Prop} (hx : IvX σ) (hp : p < 6) (hq : q < 28) (h : ∀ σ', eqC σ σ' → K (priceF σ p q) σ') : CallI E shC (d + 3) mX9_priceOf [.ref 1, .int (nI p), .int (nI q)] σ K := by
  refine vc_World_priceOf ?_
  simp (disch := omega) only [nI_clamp, nI_add, pk_mul, pk_sub, ↓pk_rem, pk_div, k_mod, k_m1, nI_ltI, nI_leI, nI_eq, k_n0lt, k_nle0, k_0ltn, k_0len, k_n0eq, k_vin, Nat.reduceAdd, Nat.reduceMul, Nat.reduceLT, Nat.reduceLeDiff, Nat.reduceSub, Nat.reduceEqDiff, Nat.zero_add, Nat.add_zero]
  exact T_timesOf hp hq (T_useGives0 hx h)
/-- the reference -/
theorem T_Mgives {E : KE} {d u : Nat} {a b c : Int32} {σ τ : Sg} {K : Int32 → Sg → Prop} (hu : u = 0 ∨ u = 1) (hx : RX σ (τ 1)) (h : ∀ τ', eqR τ τ' → K (if u = 0 then prF σ a b c else duF σ a b c) τ') : CallI E shR (d + 2) mX11_gives [.ref 0, .int (nI u), .int a, .int b, .int c] τ K := by
  have hT : RT (if u = 0 then σ 13 1 else σ 17 1) (if u = 0 then σ 14 else σ 18) (τ 1) (310 + 121 * u) := by
    rcases hu with rfl | rfl
    · exact hx.1
    · exact hx.2
  have h : ∀ τ', eqR τ τ' → K (gvF u (if u = 0 then σ 13 1 else σ 17 1) (if u = 0 then σ 14 else σ 18) a b c) τ' := by
    rcases hu with rfl | rfl
    · exact h
    · exact h
  generalize (if u = 0 then σ 13 1 else σ 17 1) = n at hT h
  generalize (if u = 0 then σ 14 else σ 18) = f at hT h
  obtain ⟨m, hm, e⟩ := hT.1
  have ecl : cl n = m := by rw [e]; exact nI_clamp (by omega)
  have hu2 : u < 2 := by omega
  have hrow := hT.2.1
  refine vc_Md_gives ?_
  simp (disch := omega) only [nI_clamp, nI_add, pk_mul, pk_sub, ↓pk_rem, pk_div, k_mod, k_m1, nI_ltI, nI_leI, nI_eq, k_n0lt, k_nle0, k_0ltn, k_0len, k_n0eq, k_vin, Nat.reduceAdd, Nat.reduceMul, Nat.reduceLT, Nat.reduceLeDiff, Nat.reduceSub, Nat.reduceEqDiff, Nat.zero_add, Nat.add_zero]
  refine ⟨trivial, ?_⟩
  rintro _ rfl
  refine ⟨trivial, ?_⟩
  rintro _ rfl
  refine ⟨trivial, ?_⟩
  rintro _ rfl
  simp only [k_put_put, k_put_at]
  generalize hg : upd (upd (upd (τ 10) 0 a) 1 b) 2 c = g
  have g0 : g 0 = a := by rw [← hg]; rfl
  have g1 : g 1 = b := by rw [← hg]; rfl
  have g2 : g 2 = c := by rw [← hg]; rfl
  have e10 : eqR τ (k_put τ 10 g) := eqR.put (by decide)
  simp only [k_put_ne (by decide : (1 : Nat) ≠ 10), hrow, e]
  simp (disch := omega) only [nI_clamp, nI_add, pk_mul, pk_sub, ↓pk_rem, pk_div, k_mod, k_m1, nI_ltI, nI_leI, nI_eq, k_n0lt, k_nle0, k_0ltn, k_0len, k_n0eq, k_vin, Nat.reduceAdd, Nat.reduceMul, Nat.reduceLT, Nat.reduceLeDiff, Nat.reduceSub, Nat.reduceEqDiff, Nat.zero_add, Nat.add_zero]
  unfold gvF at h
  rw [ecl] at h
  refine ⟨trivial, fun q => ⟨fun q2 => ?_, fun q2 => ?_⟩, fun q => ?_⟩
  · have hu0 : u = 0 := by
      rcases hu with rfl | rfl
      · rfl
      · exact absurd rfl q2
    subst hu0
    have h := h _ e10
    simp only [q, if_true] at h
    refine ⟨fun q3 => ⟨fun q4 => absurd rfl q4, fun _ => T_Mheld (by decide) ?_⟩, fun q3 => ⟨fun q4 => absurd rfl q4, fun _ => T_Mheld (by decide) ?_⟩⟩
    · rw [if_pos q3] at h; exact h
    · rw [if_neg q3] at h; exact h
  · have hu1 : u = 1 := q2
    subst hu1
    have h := h _ e10
    simp only [q, if_true, Nat.reduceEqDiff, if_false] at h
    exact ⟨fun _ => T_Mheld (by decide) h, fun q4 => absurd q4 (by decide)⟩
  · refine T_works (n := n) (f := f) (a := a) (b := b) (c := c) (by omega) (by rw [k_put_ne (by decide : (1 : Nat) ≠ 10)]; exact hT) (by rw [ecl]; omega) (by rw [k_put_at]; exact g0) (by rw [k_put_at]; exact g1) (by rw [k_put_at]; exact g2) (fun g' => ?_)
    have h := h _ (e10.tr (eqR.put (i := 11) (r := g') (by decide)))
    rw [if_neg q] at h
    rw [ecl]
    rcases hu with rfl | rfl
    · exact ⟨fun q4 => absurd rfl q4, fun _ => T_Mheld (by decide) h⟩
    · exact ⟨fun _ => T_Mheld (by decide) h, fun q4 => absurd q4 (by decide)⟩
theorem T_MpriceOf {E : KE} {d p q : Nat} {σ τ : Sg} {K : Int32 → Sg → Prop} (hA : RA σ (τ 1)) (hx : RX σ (τ 1)) (hp : p < 6) (hq : q < 28) (h : ∀ τ', eqR τ τ' → K (priceF σ p q) τ') : CallI E shR (d + 3) mX11_priceOf [.ref 0, .int (nI p), .int (nI q)] τ K := by
  refine vc_Md_priceOf ?_
  simp (disch := omega) only [nI_clamp, nI_add, pk_mul, pk_sub, ↓pk_rem, pk_div, k_mod, k_m1, nI_ltI, nI_leI, nI_eq, k_n0lt, k_nle0, k_0ltn, k_0len, k_n0eq, k_vin, Nat.reduceAdd, Nat.reduceMul, Nat.reduceLT, Nat.reduceLeDiff, Nat.reduceSub, Nat.reduceEqDiff, Nat.zero_add, Nat.add_zero]
  refine T_Mof hp (by omega) ?_
  rw [(hA.2 p hp).2 q hq]
  exact T_Mgives (Or.inl rfl) hx h
