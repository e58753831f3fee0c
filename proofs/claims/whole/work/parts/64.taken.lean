/-! promise 26: the class's side -/
def duB (σ : Sg) (p : Nat) : Nat → Int32
  | 0 => nI 0
  | k + 1 => if σ 7 (p * 28 + k) ≤ 0 then duB σ p k else orB (duB σ p k) k
theorem duB_bt {σ : Sg} {p j : Nat} (hj : j < 32) : ∀ k, k ≤ 28 → (bt (duB σ p k) j = true ↔ j < k ∧ ¬ σ 7 (p * 28 + j) ≤ 0)
  | 0, _ => by
    simp only [duB, bt_0]
    exact ⟨fun h => (Bool.noConfusion h), fun h => absurd h.1 (Nat.not_lt_zero j)⟩
  | k + 1, hk => by
    have ih := duB_bt (σ := σ) (p := p) hj k (by omega)
    simp only [duB]
    by_cases c1 : σ 7 (p * 28 + k) ≤ 0
    · rw [if_pos c1, ih]
      constructor
      · rintro ⟨a, b⟩; exact ⟨by omega, b⟩
      · rintro ⟨a, b⟩
        refine ⟨?_, b⟩
        by_cases e : j = k
        · subst e; exact absurd c1 b
        · omega
    · rw [if_neg c1, orB_bt (by omega) hj, ih]
      constructor
      · rintro (⟨a, b⟩ | e)
        · exact ⟨by omega, b⟩
        · subst e; exact ⟨by omega, c1⟩
      · rintro ⟨a, b⟩
        by_cases e : j = k
        · exact Or.inr e
        · exact Or.inl ⟨by omega, b⟩
theorem hkF_d {σ σ' : Sg} (e : eqD σ σ') (p q : Nat) : hkF σ' p q = hkF σ p q := by
  have lv : ∀ a b, lvF σ' a b = lvF σ a b := fun a b => by
    unfold lvF
    rw [e 3 (by decide), e 4 (by decide), e 7 (by decide)]
  have kp : ∀ k, keptF σ' k = keptF σ k := fun k => by
    unfold keptF
    rw [e 9 (by decide), e 10 (by decide), e 11 (by decide), lv, lv]
  have hn : ∀ k, hnF σ' p q k = hnF σ p q k := by
    intro k
    induction k with
    | zero => rfl
    | succ k ih =>
      simp only [hnF]
      rw [ih, e 9 (by decide), e 10 (by decide), e 11 (by decide), kp]
  unfold hkF nQ
  rw [e 3 (by decide), e 4 (by decide), e 7 (by decide), e 8 (by decide), hn]
theorem IvA.d {σ σ' : Sg} (h : IvA σ) (e : eqD σ σ') : IvA σ' := h.fr (fun i a b => e i (by
  rcases (by omega : i = 2 ∨ i = 3 ∨ i = 4 ∨ i = 5 ∨ i = 6 ∨ i = 7) with rfl | rfl | rfl | rfl | rfl | rfl <;> decide))
theorem IvQ.d {σ σ' : Sg} (h : IvQ σ) (e : eqD σ σ') : IvQ σ' := h.fr (by rw [e 2 (by decide)]) (fun i a b => e i (by
  rcases (by omega : i = 8 ∨ i = 9 ∨ i = 10 ∨ i = 11) with rfl | rfl | rfl | rfl <;> decide))
theorem unkF_d {σ σ' : Sg} (e : eqD σ σ') : ∀ k, unkF σ' k = unkF σ k := by
  have lv : ∀ a b, lvF σ' a b = lvF σ a b := fun a b => by
    unfold lvF
    rw [e 3 (by decide), e 4 (by decide), e 7 (by decide)]
  have kp : ∀ k, keptF σ' k = keptF σ k := fun k => by
    unfold keptF
    rw [e 9 (by decide), e 10 (by decide), e 11 (by decide), lv, lv]
  intro k
  induction k with
  | zero => rfl
  | succ k ih =>
    simp only [unkF]
    rw [ih, kp]
section P64
variable {E E' : KE} {S : Shp} {d d' : Nat} {x1 x2 x3 : Int32} {σ τ : Sg} {Z : Int32 → Int32 → Sg → Sg → Prop} {K : Int32 → Sg → Prop} {L : Sg → Prop}
theorem T_isOf {k p : Nat} (hk : k < 8) (h : K (k_b (σ 9 k = nI p ∨ σ 10 k = nI p)) σ) : CallI E shC d mX2_isOf [.ref 8, .int (nI k), .int (nI p)] σ K := by
  refine vc_Promises_isOf ?_
  rw [show (nI k).toNatClampNeg = k from nI_clamp (by omega)]
  have vk := vp_in_nI hk (show 8 < 2 ^ 31 by decide)
  refine ⟨vk, fun c => ?_, fun c => ⟨vk, fun c2 => ?_, fun c2 => ?_⟩⟩
  · rw [k_bT (Or.inl c)] at h; exact h
  · rw [k_bF (fun z => z.elim c c2)] at h; exact h
  · rw [k_bT (Or.inr c2)] at h; exact h
theorem T_isUpIfHad {p q : Nat} {t : Int32} (hp : p < 6) (hq : q < 28) (h : K (k_b (0 < livesF (σ 3 p) (σ 4 p) t (nI (q % 7)))) σ) : CallI E shC (d + 1) mX1_isUpIfHad [.ref 2, .int (nI p), .int (nI q), .int t] σ K := by
  refine vc_People_isUpIfHad ?_
  simp (disch := omega) only [nI_clamp, nI_add, pk_mul, pk_sub, ↓pk_rem, pk_div, k_mod, k_m1, nI_ltI, nI_leI, nI_eq, k_n0lt, k_nle0, k_0ltn, k_0len, k_n0eq, k_vin, Nat.reduceAdd, Nat.reduceMul, Nat.reduceLT, Nat.reduceLeDiff, Nat.reduceSub, Nat.reduceEqDiff, Nat.zero_add, Nat.add_zero]
  refine ⟨trivial, trivial, T_lives ⟨fun c => ?_, fun c => ?_⟩⟩
  · rw [k_bF (fun z => nle0.mpr z c)] at h; exact h
  · rw [k_bT (nle0.mp c)] at h; exact h
theorem T_harmOf {p q : Nat} (hA : IvA σ) (hQ : IvQ σ) (hp : p < 6) (hq : q < 28) (h : K (nI (hkF σ p q)) σ) : CallI E shC (d + 4) mX7_harmOf [.ref 1, .int (nI p), .int (nI q)] σ K := by
  have hq8 := nQ_le hQ
  have e8 : σ 8 3 = nI (nQ σ) := (cl_lt hQ.1 (by decide)).2
  unfold hkF at h
  refine vc_Thoughts_harmOf (T_timesOf hp hq (T_isUpIfHad hp hq (k_if (fun c => ?_) (fun c => ?_))))
  · rw [if_pos (Classical.not_not.mp (fun z => c (nle0.mp z)))] at h
    have loop : ∀ r k, k + r = nQ σ → WP E shC mX7_harmOf (d + 3 + 1) 39 [some (.ref 1), some (.int (nI p)), some (.int (nI q)), none, some (.ref 8), some (.int (nI (hnF σ p q k))), some (.int (nI k)), none] [] σ (k_qi K) := by
      intro r
      induction r with
      | zero =>
        intro k hk
        have e : k = nQ σ := by omega
        apply vb_Thoughts_harmOf_39
        rw [e8, e]
        exact ⟨fun _ => h, fun z => absurd (Int32.le_refl _) z⟩
      | succ r ih =>
        intro k hk
        have ih := ih (k + 1) (by omega)
        simp only [hnF] at ih
        apply vb_Thoughts_harmOf_39
        rw [e8, nI_leI (by omega) (by omega), nI_add, nI_add, show (nI k).toNatClampNeg = k from nI_clamp (by omega)]
        refine ⟨fun z => absurd z (by omega), fun _ => ⟨vp_in_nI (by omega) (by decide), fun c1 => ⟨fun _ => ?_, fun z => absurd rfl z⟩, fun c1 => T_isOf (by omega) (k_if (fun c2 => ⟨fun _ => ?_, fun z => absurd rfl z⟩) (fun c2 => ⟨fun z => absurd z (by decide), fun _ => T_isKept hA hQ (by omega) (k_if (fun c3 => ?_) (fun c3 => ?_))⟩))⟩⟩
        · rw [if_neg (fun z => c1 z.1), Nat.add_zero] at ih; exact ih
        · rw [if_neg (fun z => c2 z.2.1), Nat.add_zero] at ih; exact ih
        · rw [if_neg (fun z => c3 z.2.2), Nat.add_zero] at ih; exact ih
        · rw [if_pos ⟨c1, c2, c3⟩] at ih; exact ih
    exact loop (nQ σ) 0 (Nat.zero_add _)
  · rw [if_neg (fun z => nle0.mpr c z)] at h; exact h
theorem T_howManyDays {p : Nat} (hp : p < 6) (h : K (nI (toF (duB σ p 28) 28)) σ) : CallI E shC (d + 1) mX1_howManyDays [.ref 2, .int (nI p)] σ K := by
  refine vc_People_howManyDays ?_
  have loop : ∀ r k, k + r = 28 → WP E shC mX1_howManyDays (d + 1) 4 [some (.ref 2), some (.int (nI p)), some (.int (nI (toF (duB σ p 28) k))), some (.int (nI k))] [] σ (k_qi K) := by
    intro r
    induction r with
    | zero =>
      intro k hk
      have e : k = 28 := by omega
      subst e
      apply vb_People_howManyDays_4
      exact ⟨fun _ => h, fun z => absurd (Int32.le_refl _) z⟩
    | succ r ih =>
      intro k hk
      have ih := ih (k + 1) (by omega)
      have b := duB_bt (σ := σ) (p := p) (j := k) (by omega) 28 (Nat.le_refl _)
      simp only [toF] at ih
      apply vb_People_howManyDays_4
      rw [nI_leI (by omega) (by omega), nI_add, nI_add]
      refine ⟨fun z => absurd z (by omega), fun _ => T_timesOf hp (by omega) ⟨fun c => ?_, fun c => ?_⟩⟩
      · rw [if_neg (fun z => (b.mp z).2 c), Nat.add_zero] at ih; exact ih
      · rw [if_pos (b.mpr ⟨by omega, c⟩)] at ih; exact ih
  exact loop 28 0 rfl
theorem T_taken {p n : Nat} (hA : IvA σ) (hQ : IvQ σ) (hx : IvX σ) (hp : p < 6) (hn : n ≤ 3) (h : ∀ σ', eqD σ σ' → TH (hkF σ p) (pkF σ p) σ' → K (tkF (hkF σ p) (pkF σ p) (duB σ p 28) n) σ') : CallI E shC (d + 5) mX7_takenByBailiffs [.ref 52, .ref 1, .int (nI p), .int (nI n)] σ K := by
  refine vc_Thoughts_takenByBailiffs ?_
  have second : ∀ σ1, eqD σ σ1 → TH (hkF σ p) (pkF σ p) σ1 → ∀ r i, i + r = n → WP E shC mX7_takenByBailiffs (d + 4 + 1) 75 [some (.ref 52), none, none, some (.int (nI n)), some (.int (duB σ p 28)), some (.int (tkF (hkF σ p) (pkF σ p) (duB σ p 28) i)), some (.int (nI i)), none] [] σ1 (k_qi K) := by
    intro σ1 e1 hT r
    induction r with
    | zero =>
      intro i hi
      have ei : i = n := by omega
      subst ei
      apply vb_Thoughts_takenByBailiffs_75
      exact ⟨fun _ => h σ1 e1 hT, fun z => absurd (Int32.le_refl _) z⟩
    | succ r ih =>
      intro i hi
      have ih := ih (i + 1) (by omega)
      have es : tkF (hkF σ p) (pkF σ p) (duB σ p 28) (i + 1) = if lsF (hkF σ p) (pkF σ p) (duB σ p 28 &&& (tkF (hkF σ p) (pkF σ p) (duB σ p 28) i ^^^ (-1 : Int32))) 28 = 28 then tkF (hkF σ p) (pkF σ p) (duB σ p 28) i else orB (tkF (hkF σ p) (pkF σ p) (duB σ p 28) i) (lsF (hkF σ p) (pkF σ p) (duB σ p 28 &&& (tkF (hkF σ p) (pkF σ p) (duB σ p 28) i ^^^ (-1 : Int32))) 28) := rfl
      rw [es] at ih
      apply vb_Thoughts_takenByBailiffs_75
      generalize tkF (hkF σ p) (pkF σ p) (duB σ p 28) i = t at *
      rw [nI_leI (by omega) (by omega), nI_add]
      refine ⟨fun z => absurd z (by omega), fun _ => T_leastOf hT (fun c => ⟨fun _ => ?_, fun z => absurd rfl z⟩) (fun c => ⟨fun z => absurd z (ne_m1 (by omega)), fun _ => ?_⟩)⟩
      · rw [if_pos c] at ih; exact ih
      · rw [if_neg (by omega)] at ih; exact ih
  have first : ∀ r k, k + r = 28 → ∀ σ1, eqD σ σ1 → (∀ j, j < k → σ1 55 j = nI (hkF σ p j) ∧ σ1 54 j = nI (pkF σ p j)) → WP E shC mX7_takenByBailiffs (d + 4 + 1) 6 [some (.ref 52), some (.ref 1), some (.int (nI p)), some (.int (nI n)), some (.int (duB σ p k)), some (.int (nI k)), none, none] [] σ1 (k_qi K) := by
    intro r
    induction r with
    | zero =>
      intro k hk σ1 e1 ht
      have e : k = 28 := by omega
      subst e
      apply vb_Thoughts_takenByBailiffs_6
      refine ⟨fun _ => second σ1 e1 (fun j hj => ⟨⟨(ht j hj).1, ?_⟩, ⟨(ht j hj).2, (pkF_eq σ p j).2⟩⟩) n 0 (Nat.zero_add _), fun z => absurd (Int32.le_refl _) z⟩
      have := hkF_le hQ p j
      omega
    | succ r ih =>
      intro k hk σ1 e1 ht
      have ih := ih (k + 1) (by omega)
      simp only [duB] at ih
      apply vb_Thoughts_takenByBailiffs_6
      rw [nI_leI (by omega) (by omega)]
      refine ⟨fun z => absurd z (by omega), fun _ => T_priceOf (hx.congrD e1) hp (by omega) (fun σ2 e2 => ⟨vp_in_nI (by omega) (by decide), ?_⟩)⟩
      rintro _ rfl
      rw [show (nI k).toNatClampNeg = k from nI_clamp (by omega), priceF_d e1, (pkF_eq σ p k).1]
      have e3 : eqD σ (k_put σ2 54 (upd (σ2 54) k (nI (pkF σ p k)))) := (e1.tr e2.d).tr (eqD.put (by decide))
      have ht3 : ∀ j, j < k → (k_put σ2 54 (upd (σ2 54) k (nI (pkF σ p k)))) 55 j = nI (hkF σ p j) ∧ (k_put σ2 54 (upd (σ2 54) k (nI (pkF σ p k)))) 54 j = nI (pkF σ p j) := by
        intro j hj
        rw [k_put_ne (by decide), k_put_at, upd_ne (by omega), e2 55 (by decide), e2 54 (by decide)]
        exact ht j hj
      have ht4 : (k_put σ2 54 (upd (σ2 54) k (nI (pkF σ p k)))) 54 k = nI (pkF σ p k) := by rw [k_put_at, upd_at]
      generalize k_put σ2 54 (upd (σ2 54) k (nI (pkF σ p k))) = σ3 at e3 ht3 ht4
      refine T_harmOf (hA.d e3) (hQ.d e3) hp (by omega) ⟨vp_in_nI (by omega) (by decide), ?_⟩
      rintro _ rfl
      rw [hkF_d e3]
      have e5 : eqD σ (k_put σ3 55 (upd (σ3 55) k (nI (hkF σ p k)))) := e3.tr (eqD.put (by decide))
      have ht5 : ∀ j, j < k + 1 → (k_put σ3 55 (upd (σ3 55) k (nI (hkF σ p k)))) 55 j = nI (hkF σ p j) ∧ (k_put σ3 55 (upd (σ3 55) k (nI (hkF σ p k)))) 54 j = nI (pkF σ p j) := by
        intro j hj
        rw [k_put_at, k_put_ne (by decide)]
        by_cases ej : j = k
        · rw [ej, upd_at]; exact ⟨rfl, ht4⟩
        · rw [upd_ne ej]; exact ht3 j (by omega)
      generalize k_put σ3 55 (upd (σ3 55) k (nI (hkF σ p k))) = σ5 at e5 ht5
      have ih := ih σ5 e5 ht5
      refine T_timesOf hp (by omega) ⟨fun c => ?_, fun c => ?_⟩
      · rw [e5 7 (by decide)] at c
        rw [if_pos c] at ih
        rw [nI_add]; exact ih
      · rw [e5 7 (by decide)] at c
        rw [if_neg c] at ih
        rw [nI_add]; exact ih
  exact first 28 0 rfl σ eqD.rf (fun j hj => absurd hj (Nat.not_lt_zero j))
theorem T_sumOver_54 {hk pk : Nat → Nat} {v : Int32} (hT : TH hk pk σ) (h : K (nI (suF pk v 28)) σ) : CallI E shC d mX7_sumOver [.int v, .ref 54] σ K := by
  refine vc_Thoughts_sumOver_54 ?_
  have loop : ∀ r k, k + r = 28 → WP E shC mX7_sumOver d 4 [some (.int v), some (.ref 54), some (.int (nI (suF pk v k))), some (.int (nI k))] [] σ (k_qi K) := by
    intro r
    induction r with
    | zero =>
      intro k hk'
      have e : k = 28 := by omega
      subst e
      apply vb_Thoughts_sumOver_54_4
      exact ⟨fun _ => h, fun z => absurd (Int32.le_refl _) z⟩
    | succ r ih =>
      intro k hk'
      have ih := ih (k + 1) (by omega)
      obtain ⟨⟨t1, -⟩, ⟨t2, -⟩⟩ := hT k (by omega)
      simp only [suF] at ih
      apply vb_Thoughts_sumOver_54_4
      rw [nI_leI (by omega) (by omega), nI_add, bt_test (by omega)]
      refine ⟨fun z => absurd z (by omega), fun _ => ⟨fun c => ?_, fun c => ⟨vp_in_nI (by omega) (by decide), ?_⟩⟩⟩
      · rw [if_neg c, Nat.add_zero] at ih; exact ih
      · rw [if_pos c] at ih
        rw [show (nI k).toNatClampNeg = k from nI_clamp (by omega)]
        first | rw [t1, nI_add] | rw [t2, nI_add]
        exact ih
  exact loop 28 0 rfl
theorem T_sumOver_55 {hk pk : Nat → Nat} {v : Int32} (hT : TH hk pk σ) (h : K (nI (suF hk v 28)) σ) : CallI E shC d mX7_sumOver [.int v, .ref 55] σ K := by
  refine vc_Thoughts_sumOver_55 ?_
  have loop : ∀ r k, k + r = 28 → WP E shC mX7_sumOver d 4 [some (.int v), some (.ref 55), some (.int (nI (suF hk v k))), some (.int (nI k))] [] σ (k_qi K) := by
    intro r
    induction r with
    | zero =>
      intro k hk'
      have e : k = 28 := by omega
      subst e
      apply vb_Thoughts_sumOver_55_4
      exact ⟨fun _ => h, fun z => absurd (Int32.le_refl _) z⟩
    | succ r ih =>
      intro k hk'
      have ih := ih (k + 1) (by omega)
      obtain ⟨⟨t1, -⟩, ⟨t2, -⟩⟩ := hT k (by omega)
      simp only [suF] at ih
      apply vb_Thoughts_sumOver_55_4
      rw [nI_leI (by omega) (by omega), nI_add, bt_test (by omega)]
      refine ⟨fun z => absurd z (by omega), fun _ => ⟨fun c => ?_, fun c => ⟨vp_in_nI (by omega) (by decide), ?_⟩⟩⟩
      · rw [if_neg c, Nat.add_zero] at ih; exact ih
      · rw [if_pos c] at ih
        rw [show (nI k).toNatClampNeg = k from nI_clamp (by omega)]
        first | rw [t1, nI_add] | rw [t2, nI_add]
        exact ih
  exact loop 28 0 rfl
theorem T_memberOf {v : Int32} {q a : Nat} (hq : q < 28) (hb : bt v q = true) (ha : toF v q = a) (h : K (nI q) σ) : CallI E S d mX7_memberOf [.int v, .int (nI a)] σ K := by
  refine vc_Thoughts_memberOf ?_
  have a28 : a ≤ 28 := by have := toF_le v q; omega
  have loop : ∀ r k l, k + r = q → l + toF v k = a → WP E S mX7_memberOf d 4 [some (.int v), none, some (.int (nI l)), some (.int (nI k))] [] σ (k_qi K) := by
    intro r
    induction r with
    | zero =>
      intro k l hk el
      have e : k = q := by omega
      subst e
      have l0 : l = 0 := by omega
      subst l0
      apply vb_Thoughts_memberOf_4
      rw [nI_leI (by omega) (by omega), bt_test (by omega)]
      exact ⟨fun z => absurd z (by omega), fun _ => ⟨fun c => absurd hb c, fun _ => ⟨fun z => absurd rfl z, fun _ => h⟩⟩⟩
    | succ r ih =>
      intro k l hk el
      have ih := ih (k + 1)
      have mono := toF_mono (v := v) (a := k + 1) q (by omega)
      simp only [toF] at ih mono
      apply vb_Thoughts_memberOf_4
      rw [nI_leI (by omega) (by omega), nI_add, bt_test (by omega), k_n0eq (by omega)]
      refine ⟨fun z => absurd z (by omega), fun _ => ⟨fun c => ?_, fun c => ⟨fun z => ?_, fun z => ?_⟩⟩⟩
      · exact ih l (by omega) (by rw [if_neg c]; omega)
      · rw [k_m1 (by omega)]
        exact ih (l - 1) (by omega) (by rw [if_pos c]; omega)
      · rw [if_pos c] at mono
        omega
  exact loop q 0 a (Nat.zero_add _) rfl
end P64
