/-! promise 11: a week sold -/
theorem T_copy_1_3 {E : KE} {d : Nat} {τ : Sg} {K : Sg → Prop} (h : ∀ g, (∀ j, j < 552 → g j = τ 1 j) → K (k_put τ 3 g)) : CallN E shR d mX11_copyAll [.ref 1, .ref 3] τ K := by
  refine vc_Md_copyAll_1_3 ?_
  have loop : ∀ r i, i + r = 552 → ∀ g, (∀ j, j < i → g j = τ 1 j) → WP E shR mX11_copyAll d 2 [some (.ref 1), some (.ref 3), some (.int (nI i))] [] (k_put τ 3 g) (k_qn K) := by
    intro r
    induction r with
    | zero =>
      intro i hi g hg
      have e : i = 552 := by omega
      subst e
      apply vb_Md_copyAll_1_3_2
      exact ⟨fun _ => h g hg, fun q => absurd (Int32.le_refl _) q⟩
    | succ r ih =>
      intro i hi g hg
      apply vb_Md_copyAll_1_3_2
      simp (disch := omega) only [nI_clamp, nI_add, pk_mul, pk_sub, ↓pk_rem, pk_div, k_mod, k_m1, nI_ltI, nI_leI, nI_eq, k_n0lt, k_nle0, k_0ltn, k_0len, k_n0eq, k_vin, Nat.reduceAdd, Nat.reduceMul, Nat.reduceLT, Nat.reduceLeDiff, Nat.reduceSub, Nat.reduceEqDiff, Nat.zero_add, Nat.add_zero, k_put_at, k_put_ne (by decide : (1 : Nat) ≠ 3)]
      refine ⟨fun q => absurd q (by omega), fun _ => ⟨trivial, trivial, ?_⟩⟩
      rintro _ rfl
      rw [k_put_put]
      refine ih (i + 1) (by omega) _ (fun j hj => ?_)
      by_cases e : j = i
      · subst e; rw [upd_at]
      · rw [upd_ne e]; exact hg j (by omega)
  have e : τ = k_put τ 3 (τ 3) := by
    funext i; unfold k_put; split
    · next h => rw [h]
    · rfl
  rw [e]
  exact loop 552 0 rfl _ (fun j hj => absurd hj (Nat.not_lt_zero j))
theorem T_copy_3_1 {E : KE} {d : Nat} {τ : Sg} {K : Sg → Prop} (h : ∀ g, (∀ j, j < 552 → g j = τ 3 j) → K (k_put τ 1 g)) : CallN E shR d mX11_copyAll [.ref 3, .ref 1] τ K := by
  refine vc_Md_copyAll_3_1 ?_
  have loop : ∀ r i, i + r = 552 → ∀ g, (∀ j, j < i → g j = τ 3 j) → WP E shR mX11_copyAll d 2 [some (.ref 3), some (.ref 1), some (.int (nI i))] [] (k_put τ 1 g) (k_qn K) := by
    intro r
    induction r with
    | zero =>
      intro i hi g hg
      have e : i = 552 := by omega
      subst e
      apply vb_Md_copyAll_3_1_2
      exact ⟨fun _ => h g hg, fun q => absurd (Int32.le_refl _) q⟩
    | succ r ih =>
      intro i hi g hg
      apply vb_Md_copyAll_3_1_2
      simp (disch := omega) only [nI_clamp, nI_add, pk_mul, pk_sub, ↓pk_rem, pk_div, k_mod, k_m1, nI_ltI, nI_leI, nI_eq, k_n0lt, k_nle0, k_0ltn, k_0len, k_n0eq, k_vin, Nat.reduceAdd, Nat.reduceMul, Nat.reduceLT, Nat.reduceLeDiff, Nat.reduceSub, Nat.reduceEqDiff, Nat.zero_add, Nat.add_zero, k_put_at, k_put_ne (by decide : (3 : Nat) ≠ 1)]
      refine ⟨fun q => absurd q (by omega), fun _ => ⟨trivial, trivial, ?_⟩⟩
      rintro _ rfl
      rw [k_put_put]
      refine ih (i + 1) (by omega) _ (fun j hj => ?_)
      by_cases e : j = i
      · subst e; rw [upd_at]
      · rw [upd_ne e]; exact hg j (by omega)
  have e : τ = k_put τ 1 (τ 1) := by
    funext i; unfold k_put; split
    · next h => rw [h]
    · rfl
  rw [e]
  exact loop 552 0 rfl _ (fun j hj => absurd hj (Nat.not_lt_zero j))
theorem T_copy_1_2 {E : KE} {d : Nat} {τ : Sg} {K : Sg → Prop} (h : ∀ g, (∀ j, j < 552 → g j = τ 1 j) → K (k_put τ 2 g)) : CallN E shR d mX11_copyAll [.ref 1, .ref 2] τ K := by
  refine vc_Md_copyAll_1_2 ?_
  have loop : ∀ r i, i + r = 552 → ∀ g, (∀ j, j < i → g j = τ 1 j) → WP E shR mX11_copyAll d 2 [some (.ref 1), some (.ref 2), some (.int (nI i))] [] (k_put τ 2 g) (k_qn K) := by
    intro r
    induction r with
    | zero =>
      intro i hi g hg
      have e : i = 552 := by omega
      subst e
      apply vb_Md_copyAll_1_2_2
      exact ⟨fun _ => h g hg, fun q => absurd (Int32.le_refl _) q⟩
    | succ r ih =>
      intro i hi g hg
      apply vb_Md_copyAll_1_2_2
      simp (disch := omega) only [nI_clamp, nI_add, pk_mul, pk_sub, ↓pk_rem, pk_div, k_mod, k_m1, nI_ltI, nI_leI, nI_eq, k_n0lt, k_nle0, k_0ltn, k_0len, k_n0eq, k_vin, Nat.reduceAdd, Nat.reduceMul, Nat.reduceLT, Nat.reduceLeDiff, Nat.reduceSub, Nat.reduceEqDiff, Nat.zero_add, Nat.add_zero, k_put_at, k_put_ne (by decide : (1 : Nat) ≠ 2)]
      refine ⟨fun q => absurd q (by omega), fun _ => ⟨trivial, trivial, ?_⟩⟩
      rintro _ rfl
      rw [k_put_put]
      refine ih (i + 1) (by omega) _ (fun j hj => ?_)
      by_cases e : j = i
      · subst e; rw [upd_at]
      · rw [upd_ne e]; exact hg j (by omega)
  have e : τ = k_put τ 2 (τ 2) := by
    funext i; unfold k_put; split
    · next h => rw [h]
    · rfl
  rw [e]
  exact loop 552 0 rfl _ (fun j hj => absurd hj (Nat.not_lt_zero j))
theorem T_copy_2_1 {E : KE} {d : Nat} {τ : Sg} {K : Sg → Prop} (h : ∀ g, (∀ j, j < 552 → g j = τ 2 j) → K (k_put τ 1 g)) : CallN E shR d mX11_copyAll [.ref 2, .ref 1] τ K := by
  refine vc_Md_copyAll_2_1 ?_
  have loop : ∀ r i, i + r = 552 → ∀ g, (∀ j, j < i → g j = τ 2 j) → WP E shR mX11_copyAll d 2 [some (.ref 2), some (.ref 1), some (.int (nI i))] [] (k_put τ 1 g) (k_qn K) := by
    intro r
    induction r with
    | zero =>
      intro i hi g hg
      have e : i = 552 := by omega
      subst e
      apply vb_Md_copyAll_2_1_2
      exact ⟨fun _ => h g hg, fun q => absurd (Int32.le_refl _) q⟩
    | succ r ih =>
      intro i hi g hg
      apply vb_Md_copyAll_2_1_2
      simp (disch := omega) only [nI_clamp, nI_add, pk_mul, pk_sub, ↓pk_rem, pk_div, k_mod, k_m1, nI_ltI, nI_leI, nI_eq, k_n0lt, k_nle0, k_0ltn, k_0len, k_n0eq, k_vin, Nat.reduceAdd, Nat.reduceMul, Nat.reduceLT, Nat.reduceLeDiff, Nat.reduceSub, Nat.reduceEqDiff, Nat.zero_add, Nat.add_zero, k_put_at, k_put_ne (by decide : (2 : Nat) ≠ 1)]
      refine ⟨fun q => absurd q (by omega), fun _ => ⟨trivial, trivial, ?_⟩⟩
      rintro _ rfl
      rw [k_put_put]
      refine ih (i + 1) (by omega) _ (fun j hj => ?_)
      by_cases e : j = i
      · subst e; rw [upd_at]
      · rw [upd_ne e]; exact hg j (by omega)
  have e : τ = k_put τ 1 (τ 1) := by
    funext i; unfold k_put; split
    · next h => rw [h]
    · rfl
  rw [e]
  exact loop 552 0 rfl _ (fun j hj => absurd hj (Nat.not_lt_zero j))
theorem RW.row {σ : Sg} {row row' : Nat → Int32} (h : RW σ row) (e : ∀ j, j < 552 → row' j = row j) : RW σ row' := by
  obtain ⟨h1, h2, h3, h4, h5, h6, h7, h8⟩ := h
  exact ⟨h1, h2.fr (fun _ _ _ => rfl) (fun j q => e j (by omega)), h3, h4.fr (fun _ _ _ => rfl) (fun j q => e j (by omega)), h5, h6.fr rfl (fun j q _ _ _ _ => e j (by omega)), h7.fr (fun _ _ _ => rfl) (fun j q => e j (by omega)), h8.fr (fun _ _ => rfl) (fun j q q2 => e j (by omega))⟩
/-- so many sales of a week's days, one behind the other; their prices together -/
def wkF (σ : Sg) (p o q : Nat) : Nat → Sg
  | 0 => σ
  | k + 1 => saleF (wkF σ p o q k) p o (q + k)
def smF (σ : Sg) (p q : Nat) : Nat → Int32
  | 0 => nI 0
  | k + 1 => smF σ p q k + priceF σ p (q + k)
theorem wkF_ne {σ : Sg} {p o q i : Nat} (h6 : i ≠ 6) (h7 : i ≠ 7) : ∀ k, wkF σ p o q k i = σ i
  | 0 => rfl
  | k + 1 => by simp only [wkF]; rw [saleF_ne h6 h7]; exact wkF_ne h6 h7 k
theorem wkF_7 {σ : Sg} {p o q : Nat} (hp : p < 6) (ho : o < 6) (hq : q + 7 ≤ 28) (hpo : p ≠ o) {r : Nat} (hr : r = p ∨ r = o) {j : Nat} : ∀ k, k ≤ j → j < 7 → wkF σ p o q k 7 (r * 28 + (q + j)) = σ 7 (r * 28 + (q + j))
  | 0, _, _ => rfl
  | k + 1, h1, h2 => by
    simp only [wkF]
    rw [saleF_7 hp ho (by omega) hpo, upd_ne (by omega), upd_ne (by omega)]
    exact wkF_7 hp ho hq hpo hr k (by omega) h2
theorem wkF_price {σ : Sg} {p o q : Nat} (hp : p < 6) (ho : o < 6) (hq : q + 7 ≤ 28) (hpo : p ≠ o) {k : Nat} (hk : k < 7) : priceF (wkF σ p o q k) p (q + k) = priceF σ p (q + k) := by
  unfold priceF prF
  rw [wkF_7 hp ho hq hpo (Or.inl rfl) k (Nat.le_refl _) hk, wkF_ne (by decide) (by decide), wkF_ne (by decide) (by decide)]
theorem k_ss (a b c : Int32) : a - b - c = a - (b + c) := by
  rw [Int32.sub_eq_add_neg, Int32.sub_eq_add_neg, Int32.sub_eq_add_neg, Int32.neg_add, Int32.sub_eq_add_neg, Int32.add_assoc]
theorem wkF_6 {σ : Sg} {p o q : Nat} (hp : p < 6) (ho : o < 6) (hq : q + 7 ≤ 28) (hpo : p ≠ o) : ∀ k, k ≤ 7 → wkF σ p o q k 6 p = σ 6 p + smF σ p q k ∧ wkF σ p o q k 6 o = σ 6 o - smF σ p q k
  | 0, _ => by
    simp only [wkF, smF]
    refine ⟨?_, ?_⟩
    · rw [show nI 0 = 0 from rfl, Int32.add_zero]
    · rw [show nI 0 = 0 from rfl, Int32.sub_zero]
  | k + 1, hk => by
    obtain ⟨h1, h2⟩ := wkF_6 hp ho hq hpo k (by omega)
    simp only [wkF, smF]
    rw [saleF_6 hpo, wkF_price hp ho hq hpo (by omega), upd_ne hpo, upd_at, upd_at, h1, h2, Int32.add_assoc, k_ss]
    exact ⟨rfl, rfl⟩
/-- prices together are small -/
def smN (σ : Sg) (p q : Nat) : Nat → Nat
  | 0 => 0
  | k + 1 => smN σ p q k + cl (priceF σ p (q + k))
theorem smF_n (σ : Sg) (p q : Nat) : ∃ f : Nat → Nat, (∀ k, k ≤ 7 → smF σ p q k = nI (f k)) ∧ f 0 = 0 ∧ ∀ k, ∃ r, r < 1000 ∧ priceF σ p (q + k) = nI r ∧ f (k + 1) = f k + r := by
  have h : ∀ k, cl (priceF σ p (q + k)) < 1000 ∧ priceF σ p (q + k) = nI (cl (priceF σ p (q + k))) := fun k => cl_lt (priceF_lt σ p (q + k)) (by decide)
  refine ⟨smN σ p q, fun k _ => ?_, rfl, fun k => ⟨_, (h k).1, (h k).2, rfl⟩⟩
  induction k with
  | zero => rfl
  | succ k ih =>
    simp only [smF, smN]
    rw [ih (by omega), ← nI_add, ← (h k).2]
def tcF (σ : Sg) (p o q : Nat) : Prop := ¬ σ 7 (p * 28 + q) ≤ 0 ∧ ¬ nI 9 ≤ σ 7 (o * 28 + q)
def weekF (σ : Sg) (p o q : Nat) : Prop := (∀ j, j < 7 → tcF σ p o (q + j)) ∧ ¬ σ 6 o < smF σ p q 7 ∧ ¬ nI 9999 < σ 6 p + smF σ p q 7
theorem weekF_iff {σ : Sg} {p o q : Nat} (hA : IvA σ) (hp : p < 6) (ho : o < 6) (hq : q + 7 ≤ 28) (hpo : p ≠ o) : weekF σ p o q ↔ ∀ k, k < 7 → canF (wkF σ p o q k) p o (q + k) := by
  obtain ⟨f, h1, h2, h3⟩ := smF_n σ p q
  obtain ⟨⟨-, -, -, ⟨mp, hmp, e1⟩⟩, -⟩ := hA.2 p hp
  obtain ⟨⟨-, -, -, ⟨mo, hmo, e2⟩⟩, -⟩ := hA.2 o ho
  have b : ∀ k, k ≤ 7 → f k ≤ 1000 * k := by
    intro k
    induction k with
    | zero => intro _; omega
    | succ k ih => intro hk; obtain ⟨r, hr, -, e⟩ := h3 k; have := ih (by omega); omega
  have mono : ∀ n k, k + n = 7 → f k ≤ f 7 := by
    intro n
    induction n with
    | zero => intro k hk; rw [show k = 7 by omega]; exact Nat.le_refl _
    | succ n ih => intro k hk; obtain ⟨r, hr, -, e⟩ := h3 k; have := ih (k + 1) (by omega); omega
  have key : ∀ k, k < 7 → f k ≤ mo → (canF (wkF σ p o q k) p o (q + k) ↔ tcF σ p o (q + k) ∧ f (k + 1) ≤ mo ∧ mp + f (k + 1) ≤ 9999) := by
    intro k hk hf
    obtain ⟨r, hr, er, e⟩ := h3 k
    obtain ⟨g1, g2⟩ := wkF_6 hp ho hq hpo (σ := σ) k (by omega)
    have bk := b k (by omega)
    unfold canF tcF
    rw [wkF_price hp ho hq hpo hk, wkF_7 hp ho hq hpo (Or.inl rfl) k (Nat.le_refl _) hk, wkF_7 hp ho hq hpo (Or.inr rfl) k (Nat.le_refl _) hk, g1, g2, h1 k (by omega), er, e1, e2]
    simp (disch := omega) only [nI_clamp, nI_add, pk_mul, pk_sub, ↓pk_rem, pk_div, k_mod, k_m1, nI_ltI, nI_leI, nI_eq, k_n0lt, k_nle0, k_0ltn, k_0len, k_n0eq, k_vin, Nat.reduceAdd, Nat.reduceMul, Nat.reduceLT, Nat.reduceLeDiff, Nat.reduceSub, Nat.reduceEqDiff, Nat.zero_add, Nat.add_zero]
    rw [e]
    constructor
    · rintro ⟨a1, a2, a3, a4⟩; exact ⟨⟨a1, a2⟩, by omega, by omega⟩
    · rintro ⟨⟨a1, a2⟩, a3, a4⟩; exact ⟨a1, a2, by omega, by omega⟩
  have b7 := b 7 (by omega)
  have w : weekF σ p o q ↔ (∀ j, j < 7 → tcF σ p o (q + j)) ∧ f 7 ≤ mo ∧ mp + f 7 ≤ 9999 := by
    unfold weekF
    rw [h1 7 (by omega), e1, e2]
    simp (disch := omega) only [nI_clamp, nI_add, pk_mul, pk_sub, ↓pk_rem, pk_div, k_mod, k_m1, nI_ltI, nI_leI, nI_eq, k_n0lt, k_nle0, k_0ltn, k_0len, k_n0eq, k_vin, Nat.reduceAdd, Nat.reduceMul, Nat.reduceLT, Nat.reduceLeDiff, Nat.reduceSub, Nat.reduceEqDiff, Nat.zero_add, Nat.add_zero]
    constructor
    · rintro ⟨a1, a2, a3⟩; exact ⟨a1, by omega, by omega⟩
    · rintro ⟨a1, a2, a3⟩; exact ⟨a1, by omega, by omega⟩
  rw [w]
  constructor
  · rintro ⟨a1, a2, a3⟩ k hk
    have m1 := mono (7 - k) k (by omega)
    have m2 := mono (6 - k) (k + 1) (by omega)
    exact (key k hk (by omega)).mpr ⟨a1 k hk, by omega, by omega⟩
  · intro hall
    have le : ∀ k, k ≤ 7 → f k ≤ mo ∧ (1 ≤ k → mp + f k ≤ 9999) := by
      intro k
      induction k with
      | zero => intro _; exact ⟨by omega, fun z => by omega⟩
      | succ k ih =>
        intro hk
        have := (key k (by omega) (ih (by omega)).1).mp (hall k (by omega))
        exact ⟨this.2.1, fun _ => this.2.2⟩
    refine ⟨fun j hj => ((key j hj (le j (by omega)).1).mp (hall j hj)).1, (le 7 (by omega)).1, (le 7 (by omega)).2 (by omega)⟩
section P33
variable {E E' : KE} {d d' : Nat} {σ τ : Sg} {p o w : Nat} {K : Int32 → Sg → Prop}
theorem priceF_c {σ σ' : Sg} (e : eqC σ σ') (p q : Nat) : priceF σ' p q = priceF σ p q := by
  unfold priceF prF
  rw [e 7 (by decide), e 13 (by decide), e 14 (by decide)]
theorem T_weekCanBe (hx : IvX σ) (hp : p < 6) (ho : o < 6) (hw : w < 4) (h : ∀ σ', eqC σ σ' → K (k_b (weekF σ p o (7 * w))) σ') : CallI E shC (d + 4) mX9_weekCanBe [.ref 1, .int (nI p), .int (nI o), .int (nI w)] σ K := by
  refine vc_World_weekCanBe ?_
  have loop : ∀ n k, k + n = 7 → (∀ j, j < k → tcF σ p o (7 * w + j)) → ∀ σ', eqC σ σ' → WP E shC mX9_weekCanBe (d + 3 + 1) 9 [some (.ref 1), some (.int (nI p)), some (.int (nI o)), some (.int (nI w)), some (.int (smF σ p (7 * w) k)), some (.int (nI (7 * w + k)))] [] σ' (k_qi K) := by
    intro n
    induction n with
    | zero =>
      intro k hk ht σ' e
      have e7 : k = 7 := by omega
      subst e7
      apply vb_World_weekCanBe_9
      simp (disch := omega) only [nI_clamp, nI_add, pk_mul, pk_sub, ↓pk_rem, pk_div, k_mod, k_m1, nI_ltI, nI_leI, nI_eq, k_n0lt, k_nle0, k_0ltn, k_0len, k_n0eq, k_vin, Nat.reduceAdd, Nat.reduceMul, Nat.reduceLT, Nat.reduceLeDiff, Nat.reduceSub, Nat.reduceEqDiff, Nat.zero_add, Nat.add_zero]
      refine ⟨fun _ => T_canPay hp ho ⟨k_b01, ?_⟩, fun q => absurd (by omega) q⟩
      rw [e 6 (by decide)]
      have h := h σ' e
      rw [k_bc (show weekF σ p o (7 * w) ↔ ¬ σ 6 o < smF σ p (7 * w) 7 ∧ ¬ nI 9999 < σ 6 p + smF σ p (7 * w) 7 from ⟨fun z => z.2, fun z => ⟨ht, z⟩⟩)] at h
      exact h
    | succ n ih =>
      intro k hk ht σ' e
      apply vb_World_weekCanBe_9
      simp (disch := omega) only [nI_clamp, nI_add, pk_mul, pk_sub, ↓pk_rem, pk_div, k_mod, k_m1, nI_ltI, nI_leI, nI_eq, k_n0lt, k_nle0, k_0ltn, k_0len, k_n0eq, k_vin, Nat.reduceAdd, Nat.reduceMul, Nat.reduceLT, Nat.reduceLeDiff, Nat.reduceSub, Nat.reduceEqDiff, Nat.zero_add, Nat.add_zero]
      refine ⟨fun q => absurd q (by omega), fun _ => T_dayCanPass hp ho (by omega) (k_ifn (fun q => ?_) (fun q => ?_))⟩
      · rw [e 7 (by decide)] at q
        refine T_priceOf (hx.congr e) hp (by omega) (fun σ2 e2 => ?_)
        rw [priceF_c e]
        exact ih (k + 1) (by omega) (fun j hj => by
          by_cases hjk : j = k
          · subst hjk; exact q
          · exact ht j (by omega)) σ2 (e.tr e2)
      · rw [e 7 (by decide)] at q
        have h := h σ' e
        rw [k_bF (fun z => q (z.1 k (by omega)))] at h
        exact h
  have e0 : nI w * nI 7 = nI (7 * w + 0) := by rw [pk_mul]; congr 1; omega
  rw [e0]
  exact loop 7 0 rfl (fun j hj => absurd hj (Nat.not_lt_zero j)) σ eqC.rf
variable {x1 x2 x3 : Int32} {Z : Int32 → Int32 → Sg → Sg → Prop}
theorem saleF_c {σ σ' : Sg} (e : eqC σ σ') (p o q : Nat) : eqC (saleF σ p o q) (saleF σ' p o q) := by
  intro i hi
  by_cases h6 : i = 6
  · subst h6
    simp only [saleF, k_put_ne (by decide : (6 : Nat) ≠ 7), k_put_at]
    rw [priceF_c e, e 6 (by decide)]
  · by_cases h7 : i = 7
    · subst h7
      simp only [saleF, k_put_ne (by decide : (7 : Nat) ≠ 6), k_put_at]
      rw [e 7 (by decide)]
    · rw [saleF_ne h6 h7, saleF_ne h6 h7]; exact e i hi
theorem RR.b3 {σ τ : Sg} {g : Nat → Int32} (h : RR σ τ) : RR σ (k_put τ 3 g) := h.m2 (eqM.put (by decide))
theorem P_sellWeek (hR : RR σ τ) (h : ∀ v σ' τ', RR σ' τ' → Z v v σ' τ') : CallI E shC (d + 5) mX10_sellWeek [.ref 0, .int x1, .int x2, .int x3] σ (fun v σ' => CallI E' shR (d' + 5) mX11_sellWeek [.ref 0, .int x1, .int x2, .int x3] τ (fun w τ' => Z v w σ' τ')) := by
  have hA := hR.rw.a
  have hRA := hR.rw.ra
  refine vc_SD_sellWeek (T_areTwo hA (k_if (fun q => T_err (by decide) ?_) (fun q => T_isWithin (k_ifn (fun q2 => ?_) (fun q2 => T_err (by decide) ?_)))))
  · exact vc_Md_sellWeek (T_MareTwo hA hRA (k_ifF q (T_Merr1 (h _ _ _ (hR.err (by decide))))))
  · obtain ⟨⟨p, hp, rfl⟩, ⟨o, ho, rfl⟩, hpo⟩ := id q
    obtain ⟨w, hw, rfl⟩ := (k_w0 (by decide)).mp q2
    have hn := nP_le hA
    have hpo : p ≠ o := fun e => hpo (by rw [e])
    have hp : p < 6 := by omega
    have ho : o < 6 := by omega
    have hx := hR.rw.x.iv
    have hwk := weekF_iff hA hp ho (show 7 * w + 7 ≤ 28 by omega) hpo
    -- the reference
    have ref : ∀ v σ', (weekF σ p o (7 * w) → v = smF σ p (7 * w) 7 ∧ ∀ i, k_sC i = true → σ' i = wkF σ p o (7 * w) 7 i) → (¬ weekF σ p o (7 * w) → v = (-1000000000 : Int32) - nI 3 ∧ eqC (errC σ 3) σ') → CallI E' shR (d' + 5) mX11_sellWeek [.ref 0, .int (nI p), .int (nI o), .int (nI w)] τ (fun w τ' => Z v w σ' τ') := by
      intro v σ' h1 h2
      refine vc_Md_sellWeek (T_MareTwo hA hRA (k_ifT q (T_in (k_ifnT q2 (vc_Md_thinks (T_copy_1_3 (fun g hg => ?_)))))))
      have hR0 : RR σ (k_put τ 3 g) := hR.b3
      have loop : ∀ n k, k + n = 7 → (∀ j, j < k → canF (wkF σ p o (7 * w) j) p o (7 * w + j)) → ∀ τ', RW (wkF σ p o (7 * w) k) (τ' 1) → eqN (k_put τ 3 g) τ' → WP E' shR mX11_sellWeek (d' + 4 + 1) 38 [some (.ref 0), some (.int (nI p)), some (.int (nI o)), some (.int (nI w)), some (.int (smF σ p (7 * w) k)), some (.int (nI (7 * w + k)))] [] τ' (k_qi fun w τ' => Z v w σ' τ') := by
        intro n
        induction n with
        | zero =>
          intro k hk hc τ' hW hN
          have e7 : k = 7 := by omega
          subst e7
          apply vb_Md_sellWeek_38
          simp (disch := omega) only [nI_clamp, nI_add, pk_mul, pk_sub, ↓pk_rem, pk_div, k_mod, k_m1, nI_ltI, nI_leI, nI_eq, k_n0lt, k_nle0, k_0ltn, k_0len, k_n0eq, k_vin, Nat.reduceAdd, Nat.reduceMul, Nat.reduceLT, Nat.reduceLeDiff, Nat.reduceSub, Nat.reduceEqDiff, Nat.zero_add, Nat.add_zero]
          refine ⟨fun _ => ?_, fun q => absurd (by omega) q⟩
          obtain ⟨rfl, e⟩ := h1 (hwk.mpr hc)
          refine h _ _ _ (RR.c1 (hR0.now2 hW ?_ (fun i hi => wkF_ne (by omega) (by omega) 7) hN) e)
          unfold nT; rw [wkF_ne (by decide) (by decide)]; exact hR.1.2
        | succ n ih =>
          intro k hk hc τ' hW hN
          apply vb_Md_sellWeek_38
          simp (disch := omega) only [nI_clamp, nI_add, pk_mul, pk_sub, ↓pk_rem, pk_div, k_mod, k_m1, nI_ltI, nI_leI, nI_eq, k_n0lt, k_nle0, k_0ltn, k_0len, k_n0eq, k_vin, Nat.reduceAdd, Nat.reduceMul, Nat.reduceLT, Nat.reduceLeDiff, Nat.reduceSub, Nat.reduceEqDiff, Nat.zero_add, Nat.add_zero]
          refine ⟨fun q => absurd q (by omega), fun _ => T_McanSell hW hp ho (by omega) (fun τ1 f1 => k_ifn (fun q3 => ?_) (fun q3 => ?_))⟩
          · refine T_Msells (by rw [f1 1 rfl]; exact hW) hp ho (by omega) hpo q3 (fun τ2 w2 f2 => ?_)
            rw [wkF_price hp ho (by omega) hpo (by omega)]
            exact ih (k + 1) (by omega) (fun j hj => by
              by_cases hjk : j = k
              · subst hjk; exact q3
              · exact hc j (by omega)) τ2 w2 ((hN.tr f1.n).tr f2)
          · have hnw : ¬ weekF σ p o (7 * w) := fun z => q3 (hwk.mp z k (by omega))
            obtain ⟨rfl, e⟩ := h2 hnw
            refine vc_Md_putsBack (T_copy_3_1 (fun g1 hg1 => T_Merr3 (h _ _ _ ?_)))
            have hN1 : eqN (k_put τ 3 g) (k_put τ1 1 g1) := (hN.tr f1.n).tr eqN.put1
            have e3 : ∀ j, j < 552 → g1 j = τ 1 j := by
              intro j hj
              rw [hg1 j hj, f1 3 rfl, hN 3 rfl, k_put_at]
              exact hg j hj
            have hRb : RR σ (k_put τ1 1 g1) := hR0.now2 (by rw [k_put_at]; exact hR.rw.row e3) hR.1.2 (fun _ _ => rfl) hN1
            exact (hRb.err (k := 3) (by decide)).c1 e
      have e0 : nI 7 * nI w = nI (7 * w + 0) := by rw [pk_mul]; rfl
      rw [e0]
      exact loop 7 0 rfl (fun j hj => absurd hj (Nat.not_lt_zero j)) _ hR0.rw eqN.rf
    refine T_weekCanBe hx hp ho (by omega) (fun σ1 e1 => k_ifn (fun q3 => ?_) (fun q3 => T_err (by decide) ?_))
    · have loop : ∀ n k, k + n = 7 → ∀ σ', eqC (wkF σ p o (7 * w) k) σ' → WP E shC mX10_sellWeek (d + 4 + 1) 58 [some (.ref 0), some (.int (nI p)), some (.int (nI o)), some (.int (nI w)), some (.int (smF σ p (7 * w) k)), some (.int (nI (7 * w + k)))] [] σ' (k_qi fun v σ' => CallI E' shR (d' + 5) mX11_sellWeek [.ref 0, .int (nI p), .int (nI o), .int (nI w)] τ (fun w τ' => Z v w σ' τ')) := by
        intro n
        induction n with
        | zero =>
          intro k hk σ' e
          have e7 : k = 7 := by omega
          subst e7
          apply vb_SD_sellWeek_58
          simp (disch := omega) only [nI_clamp, nI_add, pk_mul, pk_sub, ↓pk_rem, pk_div, k_mod, k_m1, nI_ltI, nI_leI, nI_eq, k_n0lt, k_nle0, k_0ltn, k_0len, k_n0eq, k_vin, Nat.reduceAdd, Nat.reduceMul, Nat.reduceLT, Nat.reduceLeDiff, Nat.reduceSub, Nat.reduceEqDiff, Nat.zero_add, Nat.add_zero]
          exact ⟨fun _ => ref _ _ (fun _ => ⟨rfl, e⟩) (fun z => absurd q3 z), fun q => absurd (by omega) q⟩
        | succ n ih =>
          intro k hk σ' e
          apply vb_SD_sellWeek_58
          simp (disch := omega) only [nI_clamp, nI_add, pk_mul, pk_sub, ↓pk_rem, pk_div, k_mod, k_m1, nI_ltI, nI_leI, nI_eq, k_n0lt, k_nle0, k_0ltn, k_0len, k_n0eq, k_vin, Nat.reduceAdd, Nat.reduceMul, Nat.reduceLT, Nat.reduceLeDiff, Nat.reduceSub, Nat.reduceEqDiff, Nat.zero_add, Nat.add_zero]
          have hx' : IvX σ' := by
            refine IvX.congr ?_ e
            unfold IvX
            rw [wkF_ne (by decide) (by decide), wkF_ne (by decide) (by decide), wkF_ne (by decide) (by decide), wkF_ne (by decide) (by decide)]
            exact hx
          refine ⟨fun q => absurd q (by omega), fun _ => T_makeSale hx' hp ho (by omega) hpo (fun σ2 e2 => ?_)⟩
          rw [priceF_c e, wkF_price hp ho (by omega) hpo (by omega)]
          exact ih (k + 1) (by omega) σ2 ((saleF_c e p o (7 * w + k)).tr e2)
      have e0 : nI w * nI 7 = nI (7 * w + 0) := by rw [pk_mul]; congr 1; omega
      rw [e0]
      exact loop 7 0 rfl σ1 e1
    · exact ref _ _ (fun z => absurd z q3) (fun _ => ⟨rfl, by
        unfold errC
        rw [e1 63 (by decide)]
        exact e1.put2⟩)
  · exact vc_Md_sellWeek (T_MareTwo hA hRA (k_ifT q (T_in (k_ifnF q2 (T_Merr1 (h _ _ _ (hR.err (by decide))))))))
end P33
