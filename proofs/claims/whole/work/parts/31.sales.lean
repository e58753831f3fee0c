/-! promises 9, 10: prices, sales -/
theorem RR.now2 {σ σ' τ τ' : Sg} (h : RR σ τ) (hw : RW σ' (τ' 1)) (ht : nT σ' < 10000) (e : ∀ i, (24 ≤ i ∧ i ≤ 46 ∨ i = 0 ∨ 57 ≤ i) → σ' i = σ i) (n : eqN τ τ') : RR σ' τ' :=
  (h.now hw ht e).congrW eqD.rf ⟨by rw [k_put_at], n 2 rfl, n 4 rfl, n 5 rfl, n 6 rfl, n 7 rfl, n 14 rfl, by rw [n 0 rfl]; rfl, by rw [n 0 rfl]; rfl⟩
theorem RW.c2 {σ σ' : Sg} {row : Nat → Int32} (h : RW σ row) (e : eqC σ σ') : RW σ' row := h.congr (fun i q => e i (by revert i; decide))
theorem RR.c1 {σ σ' τ : Sg} (h : RR σ τ) (e : eqC σ σ') : RR σ' τ := h.congr e eqR.rf
theorem RR.d1 {σ σ' τ : Sg} (h : RR σ τ) (e : eqD σ σ') : RR σ' τ := h.congrW e eqM.rf
theorem RR.m2 {σ τ τ' : Sg} (h : RR σ τ) (e : eqM τ τ') : RR σ τ' := h.congrW eqD.rf e
theorem RR.c2 {σ τ τ' : Sg} (h : RR σ τ) (e : eqR τ τ') : RR σ τ' := h.congr eqC.rf e
theorem IvA.c {σ σ' : Sg} (h : IvA σ) (e : eqC σ σ') : IvA σ' := h.fr (fun i a b => e i (by
  rcases (by omega : i = 2 ∨ i = 3 ∨ i = 4 ∨ i = 5 ∨ i = 6 ∨ i = 7) with rfl | rfl | rfl | rfl | rfl | rfl <;> decide))
theorem eqD.put2 {σ σ' : Sg} {i : Nat} {r : Nat → Int32} (h : eqD σ σ') : eqD (k_put σ i r) (k_put σ' i r) := fun j q => by
  unfold k_put; split
  · rfl
  · exact h j q
theorem eqC.put2 {σ σ' : Sg} {i : Nat} {r : Nat → Int32} (h : eqC σ σ') : eqC (k_put σ i r) (k_put σ' i r) := fun j q => by
  unfold k_put; split
  · rfl
  · exact h j q
theorem heldF_lt {v : Int32} {m : Nat} (hm : m < 10000) : k_lt (heldF v (nI m)) (m + 1) := by
  have z := nI_toInt (n := m) (by omega)
  have z0 : (nI 0).toInt = 0 := by decide
  rw [k_lt_iff (by omega)]
  unfold heldF
  by_cases h1 : nI m < v
  · rw [if_pos h1]
    split
    · omega
    · omega
  · rw [if_neg h1]
    rw [k_lti] at h1
    split
    · omega
    · next h2 => rw [k_lti] at h2; omega
theorem k_lt_mono {x : Int32} {a b : Nat} (h : k_lt x a) (hab : a ≤ b) : k_lt x b := by
  obtain ⟨j, h1, h2⟩ := h
  exact ⟨j, by omega, h2⟩
theorem gvF_lt (u : Nat) (n : Int32) (f : Nat → Int32) (a b c : Int32) : k_lt (gvF u n f a b c) 1000 := by
  unfold gvF
  split
  · split
    · split
      · exact ⟨10, by decide, rfl⟩
      · exact ⟨15, by decide, rfl⟩
    · exact ⟨0, by decide, rfl⟩
  · split
    · exact heldF_lt (by decide)
    · exact k_lt_mono (heldF_lt (by decide)) (by decide)
theorem priceF_lt (σ : Sg) (p q : Nat) : k_lt (priceF σ p q) 1000 := gvF_lt _ _ _ _ _ _
/-- a sale: whether it can be, and what it makes -/
def canF (σ : Sg) (p o q : Nat) : Prop := ¬ σ 7 (p * 28 + q) ≤ 0 ∧ ¬ nI 9 ≤ σ 7 (o * 28 + q) ∧ ¬ σ 6 o < priceF σ p q ∧ ¬ nI 9999 < σ 6 p + priceF σ p q
def saleF (σ : Sg) (p o q : Nat) : Sg :=
  let σ1 := k_put σ 6 (upd (σ 6) p (σ 6 p + priceF σ p q))
  let σ2 := k_put σ1 6 (upd (σ1 6) o (σ1 6 o - priceF σ p q))
  let σ3 := k_put σ2 7 (upd (σ2 7) (p * 28 + q) (σ2 7 (p * 28 + q) - nI 1))
  k_put σ3 7 (upd (σ3 7) (o * 28 + q) (σ3 7 (o * 28 + q) + nI 1))
theorem saleF_ne {σ : Sg} {p o q i : Nat} (h6 : i ≠ 6) (h7 : i ≠ 7) : saleF σ p o q i = σ i := by
  simp only [saleF, k_put_ne h6, k_put_ne h7]
theorem saleF_6 {σ : Sg} {p o q : Nat} (hpo : p ≠ o) : saleF σ p o q 6 = upd (upd (σ 6) p (σ 6 p + priceF σ p q)) o (σ 6 o - priceF σ p q) := by
  simp only [saleF, k_put_ne (by decide : (6 : Nat) ≠ 7), k_put_at, upd_ne (Ne.symm hpo)]
theorem saleF_7 {σ : Sg} {p o q : Nat} (hp : p < 6) (ho : o < 6) (hq : q < 28) (hpo : p ≠ o) : saleF σ p o q 7 = upd (upd (σ 7) (p * 28 + q) (σ 7 (p * 28 + q) - nI 1)) (o * 28 + q) (σ 7 (o * 28 + q) + nI 1) := by
  have : o * 28 + q ≠ p * 28 + q := by omega
  simp only [saleF, k_put_ne (by decide : (7 : Nat) ≠ 6), k_put_at, upd_ne this]
theorem RW.sale {σ : Sg} {row : Nat → Int32} {p o q : Nat} (h : RW σ row) (hp : p < 6) (ho : o < 6) (hq : q < 28) (hpo : p ≠ o) (hc : canF σ p o q) : RW (saleF σ p o q) (upd (upd (upd (upd row (10 + 32 * p + 3) (σ 6 p + priceF σ p q)) (10 + 32 * o + 3) (σ 6 o - priceF σ p q)) (10 + 32 * p + (4 + q)) (σ 7 (p * 28 + q) - nI 1)) (10 + 32 * o + (4 + q)) (σ 7 (o * 28 + q) + nI 1)) := by
  obtain ⟨c1, c2, c3, c4⟩ := hc
  obtain ⟨r, hr, er⟩ := priceF_lt σ p q
  obtain ⟨⟨-, -, -, a1⟩, a2⟩ := h.a.2 p hp
  obtain ⟨⟨-, -, -, b1⟩, b2⟩ := h.a.2 o ho
  obtain ⟨mp, hmp, e1⟩ := a1
  obtain ⟨mo, hmo, e2⟩ := b1
  obtain ⟨tp, htp, e3⟩ := a2 q hq
  obtain ⟨to, hto, e4⟩ := b2 q hq
  rw [e1, er] at c4
  rw [e2, er] at c3
  rw [e3] at c1
  rw [e4] at c2
  simp (disch := omega) only [nI_clamp, nI_add, pk_mul, pk_sub, ↓pk_rem, pk_div, k_mod, k_m1, nI_ltI, nI_leI, nI_eq, k_n0lt, k_nle0, k_0ltn, k_0len, k_n0eq, k_vin, Nat.reduceAdd, Nat.reduceMul, Nat.reduceLT, Nat.reduceLeDiff, Nat.reduceSub, Nat.reduceEqDiff, Nat.zero_add, Nat.add_zero] at c1 c2 c3 c4
  have v1 : k_lt (σ 6 p + priceF σ p q) 10000 := ⟨mp + r, by omega, by rw [e1, er, nI_add]⟩
  have v2 : k_lt (σ 6 o - priceF σ p q) 10000 := ⟨mo - r, by omega, by rw [e2, er, pk_sub (by omega)]⟩
  have v3 : k_lt (σ 7 (p * 28 + q) - nI 1) 10 := ⟨tp - 1, by omega, by rw [e3, pk_sub (by omega)]⟩
  have v4 : k_lt (σ 7 (o * 28 + q) + nI 1) 10 := ⟨to + 1, by omega, by rw [e4, nI_add]⟩
  have w1 := h.up6 hp v1
  have w2 := w1.up6 ho v2
  have w3 := w2.up7 hp hq v3
  have w4 := w3.up7 ho hq v4
  have e : saleF σ p o q = k_put (k_put (k_put (k_put σ 6 (upd (σ 6) p (σ 6 p + priceF σ p q))) 6 (upd (k_put σ 6 (upd (σ 6) p (σ 6 p + priceF σ p q)) 6) o (σ 6 o - priceF σ p q))) 7 (upd (k_put (k_put σ 6 (upd (σ 6) p (σ 6 p + priceF σ p q))) 6 (upd (k_put σ 6 (upd (σ 6) p (σ 6 p + priceF σ p q)) 6) o (σ 6 o - priceF σ p q)) 7) (p * 28 + q) (σ 7 (p * 28 + q) - nI 1))) 7 (upd (k_put (k_put (k_put σ 6 (upd (σ 6) p (σ 6 p + priceF σ p q))) 6 (upd (k_put σ 6 (upd (σ 6) p (σ 6 p + priceF σ p q)) 6) o (σ 6 o - priceF σ p q))) 7 (upd (k_put (k_put σ 6 (upd (σ 6) p (σ 6 p + priceF σ p q))) 6 (upd (k_put σ 6 (upd (σ 6) p (σ 6 p + priceF σ p q)) 6) o (σ 6 o - priceF σ p q)) 7) (p * 28 + q) (σ 7 (p * 28 + q) - nI 1)) 7) (o * 28 + q) (σ 7 (o * 28 + q) + nI 1)) := by
    have : o * 28 + q ≠ p * 28 + q := by omega
    simp only [saleF, k_put_at, k_put_ne (by decide : (7 : Nat) ≠ 6), upd_ne (Ne.symm hpo), upd_ne this]
  rw [e]
  exact w4
section P31
variable {E E' : KE} {d d' : Nat} {σ τ : Sg} {p o q : Nat} {K : Int32 → Sg → Prop}
theorem T_dayCanPass (hp : p < 6) (ho : o < 6) (hq : q < 28) (h : K (k_b (¬ σ 7 (p * 28 + q) ≤ 0 ∧ ¬ nI 9 ≤ σ 7 (o * 28 + q))) σ) : CallI E shC (d + 1) mX9_dayCanPass [.ref 1, .int (nI p), .int (nI o), .int (nI q)] σ K := by
  refine vc_World_dayCanPass (T_timesOf hp hq ⟨fun q1 => ?_, fun q1 => T_timesOf ho hq ⟨fun q2 => ?_, fun q2 => ?_⟩⟩)
  · rw [k_bF (fun w => w.1 q1)] at h; exact h
  · rw [k_bF (fun w => w.2 q2)] at h; exact h
  · rw [k_bT ⟨q1, q2⟩] at h; exact h
theorem T_canPay {r : Int32} (hp : p < 6) (ho : o < 6) (h : K (k_b (¬ σ 6 o < r ∧ ¬ nI 9999 < σ 6 p + r)) σ) : CallI E shC d mX9_canPay [.ref 1, .int (nI p), .int (nI o), .int r] σ K := by
  refine vc_World_canPay ?_
  simp (disch := omega) only [nI_clamp, nI_add, pk_mul, pk_sub, ↓pk_rem, pk_div, k_mod, k_m1, nI_ltI, nI_leI, nI_eq, k_n0lt, k_nle0, k_0ltn, k_0len, k_n0eq, k_vin, Nat.reduceAdd, Nat.reduceMul, Nat.reduceLT, Nat.reduceLeDiff, Nat.reduceSub, Nat.reduceEqDiff, Nat.zero_add, Nat.add_zero]
  refine ⟨trivial, fun q1 => ?_, fun q1 => ⟨trivial, fun q2 => ?_, fun q2 => ?_⟩⟩
  · rw [k_bF (fun w => w.1 q1)] at h; exact h
  · rw [k_bF (fun w => w.2 q2)] at h; exact h
  · rw [k_bT ⟨q1, q2⟩] at h; exact h
theorem T_saleCanBe (hx : IvX σ) (hp : p < 6) (ho : o < 6) (hq : q < 28) (h : ∀ σ', eqC σ σ' → K (k_b (canF σ p o q)) σ') : CallI E shC (d + 4) mX9_saleCanBe [.ref 1, .int (nI p), .int (nI o), .int (nI q)] σ K := by
  refine vc_World_saleCanBe (T_dayCanPass hp ho hq (k_if (fun q1 => ?_) (fun q1 => T_priceOf hx hp hq (fun σ1 e1 => T_canPay hp ho ?_))))
  · have h := h σ eqC.rf
    rw [k_bF (fun w => q1 ⟨w.1, w.2.1⟩)] at h; exact h
  · rw [e1 6 (by decide)]
    have h := h σ1 e1
    refine k_if (fun q2 => ?_) (fun q2 => ?_)
    · rw [k_bF (fun w => q2 w.2.2)] at h; exact h
    · rw [k_bT ⟨q1.1, q1.2, q2.1, q2.2⟩] at h; exact h
theorem T_makeSale (hx : IvX σ) (hp : p < 6) (ho : o < 6) (hq : q < 28) (hpo : p ≠ o) (h : ∀ σ', eqC (saleF σ p o q) σ' → K (priceF σ p q) σ') : CallI E shC (d + 4) mX9_makeSale [.ref 1, .int (nI p), .int (nI o), .int (nI q)] σ K := by
  refine vc_World_makeSale (T_priceOf hx hp hq (fun σ1 e1 => ?_))
  simp (disch := omega) only [nI_clamp, nI_add, pk_mul, pk_sub, ↓pk_rem, pk_div, k_mod, k_m1, nI_ltI, nI_leI, nI_eq, k_n0lt, k_nle0, k_0ltn, k_0len, k_n0eq, k_vin, Nat.reduceAdd, Nat.reduceMul, Nat.reduceLT, Nat.reduceLeDiff, Nat.reduceSub, Nat.reduceEqDiff, Nat.zero_add, Nat.add_zero]
  refine ⟨trivial, trivial, ?_⟩
  rintro _ rfl
  refine ⟨trivial, trivial, ?_⟩
  rintro _ rfl
  have n : o * 28 + q ≠ p * 28 + q := by omega
  refine T_timesOf hp hq (T_setTimes hp hq (T_timesOf ho hq (T_setTimes ho hq ?_)))
  refine h _ (fun i hi => ?_)
  by_cases i7 : i = 7
  · subst i7
    rw [saleF_7 hp ho hq hpo]
    simp only [k_put_at, k_put_ne (by decide : (7 : Nat) ≠ 6), upd_ne n]
    rw [e1 7 (by decide)]
  · by_cases i6 : i = 6
    · subst i6
      rw [saleF_6 hpo]
      simp only [k_put_at, k_put_ne (by decide : (6 : Nat) ≠ 7), upd_ne hpo]
      rw [e1 6 (by decide)]
      funext j
      unfold upd
      by_cases jp : j = p
      · subst jp; rw [if_pos rfl, if_neg hpo, if_pos rfl]
      · rw [if_neg jp, if_neg jp]
    · rw [saleF_ne i6 i7]
      simp only [k_put_ne i7, k_put_ne i6]
      exact e1 i hi
theorem T_McanSell (h1 : RW σ (τ 1)) (hp : p < 6) (ho : o < 6) (hq : q < 28) (h : ∀ τ', eqR τ τ' → K (k_b (canF σ p o q)) τ') : CallI E shR (d + 4) mX11_canSell [.ref 0, .int (nI p), .int (nI o), .int (nI q)] τ K := by
  refine vc_Md_canSell (T_MpriceOf h1.ra h1.x hp hq (fun τ1 e1 => ?_))
  have h := h τ1 e1
  have h1 : RW σ (τ1 1) := by rw [e1 1 rfl]; exact h1
  simp (disch := omega) only [nI_clamp, nI_add, pk_mul, pk_sub, ↓pk_rem, pk_div, k_mod, k_m1, nI_ltI, nI_leI, nI_eq, k_n0lt, k_nle0, k_0ltn, k_0len, k_n0eq, k_vin, Nat.reduceAdd, Nat.reduceMul, Nat.reduceLT, Nat.reduceLeDiff, Nat.reduceSub, Nat.reduceEqDiff, Nat.zero_add, Nat.add_zero]
  refine T_Mof hp (by omega) ?_
  rw [(h1.ra.2 p hp).2 q hq]
  refine ⟨fun q1 => ?_, fun q1 => T_Mof ho (by omega) ?_⟩
  · rw [k_bF (fun w => w.1 q1)] at h; exact h
  rw [(h1.ra.2 o ho).2 q hq]
  refine ⟨fun q2 => ?_, fun q2 => T_Mof ho (by omega) ?_⟩
  · rw [k_bF (fun w => w.2.1 q2)] at h; exact h
  rw [(h1.ra.2 o ho).1.2.2.2]
  refine ⟨fun q3 => ?_, fun q3 => T_Mof hp (by omega) ?_⟩
  · rw [k_bF (fun w => w.2.2.1 q3)] at h; exact h
  rw [(h1.ra.2 p hp).1.2.2.2]
  refine ⟨fun q4 => ?_, fun q4 => ?_⟩
  · rw [k_bF (fun w => w.2.2.2 q4)] at h; exact h
  · rw [k_bT ⟨q1, q2, q3, q4⟩] at h; exact h
theorem T_Msells (h1 : RW σ (τ 1)) (hp : p < 6) (ho : o < 6) (hq : q < 28) (hpo : p ≠ o) (hc : canF σ p o q) (h : ∀ τ', RW (saleF σ p o q) (τ' 1) → eqN τ τ' → K (priceF σ p q) τ') : CallI E shR (d + 4) mX11_sells [.ref 0, .int (nI p), .int (nI o), .int (nI q)] τ K := by
  refine vc_Md_sells (T_MpriceOf h1.ra h1.x hp hq (fun τ1 e1 => ?_))
  have h0 := h1
  have h1 : RW σ (τ1 1) := by rw [e1 1 rfl]; exact h1
  have a1 := (h1.ra.2 p hp).1.2.2.2
  have a2 := (h1.ra.2 o ho).1.2.2.2
  have a3 := (h1.ra.2 p hp).2 q hq
  have a4 := (h1.ra.2 o ho).2 q hq
  simp (disch := omega) only [nI_clamp, nI_add, pk_mul, pk_sub, ↓pk_rem, pk_div, k_mod, k_m1, nI_ltI, nI_leI, nI_eq, k_n0lt, k_nle0, k_0ltn, k_0len, k_n0eq, k_vin, Nat.reduceAdd, Nat.reduceMul, Nat.reduceLT, Nat.reduceLeDiff, Nat.reduceSub, Nat.reduceEqDiff, Nat.zero_add, Nat.add_zero]
  refine T_Mof hp (by omega) (T_Mlay hp (by omega) (T_Mof ho (by omega) (T_Mlay ho (by omega) (T_Mof hp (by omega) (T_Mlay hp (by omega) (T_Mof ho (by omega) (T_Mlay ho (by omega) ?_)))))))
  have n1 : 10 + 32 * o + 3 ≠ 10 + 32 * p + 3 := by omega
  have n2 : 10 + 32 * p + (4 + q) ≠ 10 + 32 * o + 3 := by omega
  have n3 : 10 + 32 * p + (4 + q) ≠ 10 + 32 * p + 3 := by omega
  have n4 : 10 + 32 * o + (4 + q) ≠ 10 + 32 * p + (4 + q) := by omega
  have n5 : 10 + 32 * o + (4 + q) ≠ 10 + 32 * o + 3 := by omega
  have n6 : 10 + 32 * o + (4 + q) ≠ 10 + 32 * p + 3 := by omega
  simp only [k_put_at, k_put_put, upd_ne n1, upd_ne n2, upd_ne n3, upd_ne n4, upd_ne n5, upd_ne n6, a1, a2, a3, a4]
  refine h _ ?_ (e1.n.tr eqN.put1)
  rw [k_put_at]
  exact h1.sale hp ho hq hpo hc
variable {x1 x2 x3 : Int32} {Z : Int32 → Int32 → Sg → Sg → Prop}
theorem P_price (hR : RR σ τ) (h : ∀ v σ' τ', RR σ' τ' → Z v v σ' τ') : CallI E shC (d + 4) mX10_price [.ref 0, .int x1, .int x2] σ (fun v σ' => CallI E' shR (d' + 4) mX11_price [.ref 0, .int x1, .int x2] τ (fun w τ' => Z v w σ' τ')) := by
  have hA := hR.rw.a
  have hRA := hR.rw.ra
  refine vc_SD_price (T_knows hA (k_if (fun q => T_err (by decide) ?_) (fun q => T_isDay (k_ifn (fun q2 => ?_) (fun q2 => T_err (by decide) ?_)))))
  · exact vc_Md_price (T_isPerson hA hRA (k_ifF q (T_Merr1 (h _ _ _ (hR.err (by decide))))))
  · obtain ⟨p, hp, rfl⟩ := id q
    obtain ⟨t, ht, rfl⟩ := id q2
    have hn := nP_le hA
    refine T_priceOf hR.rw.x.iv (by omega) ht (fun σ1 e1 => vc_Md_price (T_isPerson hA hRA (k_ifT q (T_MisDay (k_ifT q2 (T_MpriceOf hRA hR.rw.x (by omega) ht (fun τ1 e2 => h _ _ _ (hR.congr e1 e2))))))))
  · exact vc_Md_price (T_isPerson hA hRA (k_ifT q (T_MisDay (k_ifF q2 (T_Merr1 (h _ _ _ (hR.err (by decide))))))))
theorem P_sell (hR : RR σ τ) (h : ∀ v σ' τ', RR σ' τ' → Z v v σ' τ') : CallI E shC (d + 5) mX10_sell [.ref 0, .int x1, .int x2, .int x3] σ (fun v σ' => CallI E' shR (d' + 5) mX11_sell [.ref 0, .int x1, .int x2, .int x3] τ (fun w τ' => Z v w σ' τ')) := by
  have hA := hR.rw.a
  have hRA := hR.rw.ra
  refine vc_SD_sell (T_areTwo hA (k_if (fun q => T_err (by decide) ?_) (fun q => T_isDay (k_ifn (fun q2 => ?_) (fun q2 => T_err (by decide) ?_)))))
  · exact vc_Md_sell (T_MareTwo hA hRA (k_ifF q (T_Merr1 (h _ _ _ (hR.err (by decide))))))
  · obtain ⟨⟨p, hp, rfl⟩, ⟨o, ho, rfl⟩, hpo⟩ := id q
    obtain ⟨t, ht, rfl⟩ := id q2
    have hn := nP_le hA
    have hpo : p ≠ o := fun e => hpo (by rw [e])
    have hx := hR.rw.x.iv
    refine T_saleCanBe hx (by omega) (by omega) ht (fun σ1 e1 => k_ifn (fun q3 => ?_) (fun q3 => T_err (by decide) ?_))
    · have e3 : canF σ1 p o t = canF σ p o t := by
        unfold canF priceF prF
        rw [e1 6 (by decide), e1 7 (by decide), e1 13 (by decide), e1 14 (by decide)]
      refine T_makeSale (hx.congr e1) (by omega) (by omega) ht hpo (fun σ2 e2 => ?_)
      refine vc_Md_sell (T_MareTwo hA hRA (k_ifT q (T_MisDay (k_ifnT q2 (T_McanSell hR.rw (by omega) (by omega) ht (fun τ1 f1 => k_ifT q3 ?_))))))
      have hR1 : RR σ1 τ1 := hR.congr e1 f1
      rw [← e3] at q3
      refine T_Msells hR1.rw (by omega) (by omega) ht hpo q3 (fun τ2 w2 f2 => ?_)
      refine h _ _ _ (RR.c1 (hR1.now2 w2 ?_ (fun i hi => saleF_ne (by omega) (by omega)) f2) e2)
      unfold nT; rw [saleF_ne (by decide) (by decide)]; exact hR1.1.2
    · refine vc_Md_sell (T_MareTwo hA hRA (k_ifT q (T_MisDay (k_ifnT q2 (T_McanSell hR.rw (by omega) (by omega) ht (fun τ1 f1 => k_ifF q3 (T_Merr3 (h _ _ _ ((hR.congr e1 f1).err (by decide))))))))))
  · exact vc_Md_sell (T_MareTwo hA hRA (k_ifT q (T_MisDay (k_ifnF q2 (T_Merr1 (h _ _ _ (hR.err (by decide))))))))
end P31
