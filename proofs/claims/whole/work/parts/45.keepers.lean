/-! promise 24: keepers -/
/-- Integer.bitCount, as the library works it -/
def bcF (x0 : Int32) : Int32 :=
  let a := x0 - (((x0.toUInt32 >>> ((nI 1).toUInt32 &&& Int32.toUInt32 31)).toInt32) &&& (nI 1431655765))
  let b := (a &&& (nI 858993459)) + (((a.toUInt32 >>> ((nI 2).toUInt32 &&& Int32.toUInt32 31)).toInt32) &&& (nI 858993459))
  let c := (b + ((b.toUInt32 >>> ((nI 4).toUInt32 &&& Int32.toUInt32 31)).toInt32)) &&& (nI 252645135)
  let e := c + ((c.toUInt32 >>> ((nI 8).toUInt32 &&& Int32.toUInt32 31)).toInt32)
  (e + ((e.toUInt32 >>> ((nI 16).toUInt32 &&& Int32.toUInt32 31)).toInt32)) &&& (nI 63)
/-- how many bits, one by one -/
def pcN (x : Int32) : Nat → Nat
  | 0 => 0
  | k + 1 => pcN x k + (if bt x k then 1 else 0)
theorem bc_64 : ∀ s, s < 64 → bcF (nI s) = nI (pcN (nI s) 6) := by decide
theorem lo_64 : ∀ s, s < 64 → ¬ nI s = 0 → (nI s &&& (nI s - nI 1)) = nI (s &&& (s - 1)) ∧ pcN (nI (s &&& (s - 1))) 6 + 1 = pcN (nI s) 6 := by decide
section P45
variable {E E' : KE} {S : Shp} {d d' : Nat} {x1 x2 x3 : Int32} {σ τ : Sg} {Z : Int32 → Int32 → Sg → Sg → Prop} {K : Int32 → Sg → Prop} {L : Sg → Prop}
theorem T_bitCount {x : Int32} (h : K (bcF x) σ) : CallI E S d mJ6_bitCount_0f7a4 [.int x] σ K := vc_JI_bitCount h
theorem T_bits {s : Nat} (hs : s < 64) (h : K (nI (pcN (nI s) 6)) σ) : CallI E S d mX11_bits [.int (nI s)] σ K := by
  refine vc_Md_bits ?_
  have loop : ∀ n t k, t ≤ n → t < 64 → k + pcN (nI t) 6 = pcN (nI s) 6 → WP E S mX11_bits d 4 [none, some (.int (nI k)), some (.int (nI t))] [] σ (k_qi K) := by
    intro n
    induction n with
    | zero =>
      intro t k ht ht2 e
      have : t = 0 := by omega
      subst this
      apply vb_Md_bits_4
      refine ⟨fun _ => ?_, fun z => absurd rfl z⟩
      have e : k = pcN (nI s) 6 := by rw [← e]; rfl
      rw [e]; exact h
    | succ n ih =>
      intro t k ht ht2 e
      apply vb_Md_bits_4
      refine ⟨fun z => ?_, fun z => ?_⟩
      · simp (disch := omega) only [nI_clamp, nI_add, pk_mul, pk_sub, ↓pk_rem, pk_div, k_mod, k_m1, nI_ltI, nI_leI, nI_eq, k_n0lt, k_nle0, k_0ltn, k_0len, k_n0eq, k_vin, Nat.reduceAdd, Nat.reduceMul, Nat.reduceLT, Nat.reduceLeDiff, Nat.reduceSub, Nat.reduceEqDiff, Nat.zero_add, Nat.add_zero] at z
        subst z
        have e : k = pcN (nI s) 6 := by rw [← e]; rfl
        rw [e]; exact h
      · have w := lo_64 t ht2 z
        have hz : t ≠ 0 := by intro q; subst q; exact z rfl
        have hl : t &&& (t - 1) ≤ t - 1 := Nat.and_le_right
        rw [w.1, nI_add]
        exact ih _ _ (by omega) (by omega) (by omega)
  exact loop s s 0 (Nat.le_refl _) hs (by omega)
/-- a set keeps every day -/
def kpF (σ : Sg) (s : Nat) : Prop := ∀ q, q < 28 → ∃ p, p < nP σ ∧ bt (nI s) p = true ∧ 0 < lvF σ p q
noncomputable def bsF (σ : Sg) : Nat → Nat
  | 0 => 0
  | s + 1 => @ite Nat ((bsF σ s = 0 ∨ pcN (nI s) 6 < pcN (nI (bsF σ s)) 6) ∧ kpF σ s) (Classical.propDecidable _) s (bsF σ s)
theorem bsF_le (σ : Sg) : ∀ s, bsF σ s ≤ s
  | 0 => Nat.le_refl _
  | s + 1 => by
    have := bsF_le σ s
    simp only [bsF]
    split <;> omega
theorem kpF_0 {σ : Sg} : ¬ kpF σ 0 := by
  intro h
  obtain ⟨p, -, h2, -⟩ := h 0 (by decide)
  rw [bt_0] at h2
  cases h2
theorem bt_lt : ∀ s, s < 64 → ∀ p, p < 6 → bt (nI s) p = true → 2 ^ p ≤ s := by decide
theorem sh_n : ∀ n, n ≤ 6 → (nI 1) <<< ((nI n) &&& 31) = nI (2 ^ n) := by decide
theorem pw_n : ∀ n, n ≤ 6 → 1 ≤ 2 ^ n ∧ 2 ^ n ≤ 64 := by decide
def dkF (f : Nat → Int32) (s : Nat) : Nat → Int32
  | 0 => nI 0
  | p + 1 => if bt (nI s) p = true then dkF f s p ||| f p else dkF f s p
theorem dkF_bt {f : Nat → Int32} {s j : Nat} : ∀ k, bt (dkF f s k) j = true ↔ ∃ p, p < k ∧ bt (nI s) p = true ∧ bt (f p) j = true
  | 0 => by
    simp only [dkF, bt_0]
    exact ⟨fun h => (Bool.noConfusion h), fun ⟨p, h, _⟩ => absurd h (Nat.not_lt_zero p)⟩
  | k + 1 => by
    have ih := dkF_bt (f := f) (s := s) (j := j) k
    simp only [dkF]
    by_cases c : bt (nI s) k = true
    · rw [if_pos c]
      have e : bt (dkF f s k ||| f k) j = (bt (dkF f s k) j || bt (f k) j) := by
        unfold bt
        rw [Int32.toBitVec_or, BitVec.getLsbD_or]
      rw [e, Bool.or_eq_true, ih]
      constructor
      · rintro (⟨p, a, b⟩ | a)
        · exact ⟨p, by omega, b⟩
        · exact ⟨k, by omega, c, a⟩
      · rintro ⟨p, a, b, b2⟩
        by_cases e : p = k
        · subst e; exact Or.inr b2
        · exact Or.inl ⟨p, by omega, b, b2⟩
    · rw [if_neg c, ih]
      constructor
      · rintro ⟨p, a, b⟩
        exact ⟨p, by omega, b⟩
      · rintro ⟨p, a, b, b2⟩
        refine ⟨p, ?_, b, b2⟩
        by_cases e : p = k
        · subst e; exact absurd b c
        · omega
theorem all_bt {v : Int32} : v = nI 268435455 ↔ ∀ j, j < 32 → bt v j = decide (j < 28) := by
  have b1 : ∀ j, j < 32 → bt (nI 268435455) j = decide (j < 28) := by decide
  constructor
  · rintro rfl; exact b1
  · intro h
    apply Int32.toBitVec_inj.mp
    apply BitVec.eq_of_getLsbD_eq
    intro j hj
    exact (h j hj).trans (b1 j hj).symm
theorem dk_kp {σ : Sg} {f : Nat → Int32} {s : Nat} (hn : nP σ ≤ 6) (hs : s < 2 ^ nP σ) (hf : ∀ p, p < nP σ → f p = udF σ p 28) : dkF f s 6 = nI 268435455 ↔ kpF σ s := by
  have h64 := (pw_n (nP σ) hn).2
  have lt : ∀ p, p < 6 → bt (nI s) p = true → p < nP σ := by
    intro p hp hb
    have := bt_lt s (by omega) p hp hb
    exact (Nat.pow_lt_pow_iff_right (by decide : 1 < 2)).mp (by omega)
  rw [all_bt]
  constructor
  · intro h q hq
    have z := h q (by omega)
    rw [decide_eq_true hq, dkF_bt] at z
    obtain ⟨p, hp, hb, hb2⟩ := z
    have hp2 := lt p hp hb
    rw [hf p hp2, udF_bt 28 (by decide) (by omega)] at hb2
    exact ⟨p, hp2, hb, hb2.2⟩
  · intro h j hj
    by_cases c : j < 28
    · obtain ⟨p, hp, hb, hl⟩ := h j c
      rw [decide_eq_true c, dkF_bt]
      refine ⟨p, by omega, hb, ?_⟩
      rw [hf p hp, udF_bt 28 (by decide) (by omega)]
      exact ⟨c, hl⟩
    · rw [decide_eq_false c]
      by_cases z : bt (dkF f s 6) j = true
      · rw [dkF_bt] at z
        obtain ⟨p, hp, hb, hb2⟩ := z
        rw [hf p (lt p hp hb), udF_bt 28 (by decide) (by omega)] at hb2
        exact absurd hb2.1 c
      · exact Bool.eq_false_iff.mpr z
theorem T_daysKeptBy {s : Nat} (h : K (dkF (σ 53) s 6) σ) : CallI E shC d mX7_daysKeptBy [.ref 52, .int (nI s)] σ K := by
  refine vc_Thoughts_daysKeptBy ?_
  have loop : ∀ r k, k + r = 6 → WP E shC mX7_daysKeptBy d 4 [some (.ref 52), some (.int (nI s)), some (.int (dkF (σ 53) s k)), some (.int (nI k))] [] σ (k_qi K) := by
    intro r
    induction r with
    | zero =>
      intro k hk
      have e : k = 6 := by omega
      subst e
      apply vb_Thoughts_daysKeptBy_4
      exact ⟨fun _ => h, fun z => absurd (Int32.le_refl _) z⟩
    | succ r ih =>
      intro k hk
      have ih := ih (k + 1) (by omega)
      simp only [dkF] at ih
      apply vb_Thoughts_daysKeptBy_4
      rw [nI_leI (by omega) (by omega), nI_add, bt_test (by omega), show (nI k).toNatClampNeg = k from nI_clamp (by omega)]
      refine ⟨fun z => absurd z (by omega), fun _ => ⟨fun c => ?_, fun c => ⟨vp_in_nI (by omega) (by decide), ?_⟩⟩⟩
      · rw [if_neg c] at ih; exact ih
      · rw [if_pos c] at ih; exact ih
  exact loop 6 0 rfl
theorem T_fewest (hA : IvA σ) (h : ∀ g, K (nI (bsF σ (2 ^ nP σ))) (k_put σ 53 g)) : CallI E shC (d + 3) mX7_fewestKeepers [.ref 52, .ref 2] σ K := by
  have hn := nP_le hA
  have e2 : σ 2 5 = nI (nP σ) := (cl_lt hA.1 (by decide)).2
  have hw := pw_n (nP σ) hn
  refine vc_Thoughts_fewestKeepers ?_
  have second : ∀ g, (∀ p, p < nP σ → g p = udF σ p 28) → ∀ r s, s + r = 2 ^ nP σ → WP E shC mX7_fewestKeepers (d + 2 + 1) 31 [some (.ref 52), some (.ref 2), some (.int (nI (bsF σ s))), some (.int (nI s)), none] [] (k_put σ 53 g) (k_qi K) := by
    intro g hg r
    induction r with
    | zero =>
      intro s hs
      have e : s = 2 ^ nP σ := by omega
      apply vb_Thoughts_fewestKeepers_31
      rw [k_put_ne (by decide : (2 : Nat) ≠ 53), e2, sh_n _ hn, e]
      exact ⟨fun _ => h g, fun z => absurd (Int32.le_refl _) z⟩
    | succ r ih =>
      intro s hs
      have ih := ih (s + 1) (by omega)
      have hb := bsF_le σ s
      have b1 := bc_64 s (by omega)
      have b2 := bc_64 (bsF σ s) (by omega)
      have p1 : ∀ t, pcN (nI t) 6 ≤ 6 := by
        intro t
        simp only [pcN]
        repeat' split
        all_goals omega
      have q1 := p1 s
      have q2 := p1 (bsF σ s)
      have kp := dk_kp (σ := σ) (f := g) (s := s) hn (by omega) hg
      have go : ∀ (cnd : bsF σ s = 0 ∨ pcN (nI s) 6 < pcN (nI (bsF σ s)) 6), CallI E shC (d + 2) mX7_daysKeptBy [.ref 52, .int (nI s)] (k_put σ 53 g) (fun y2 σ1 => (¬ y2 = (nI 268435455) → WP E shC mX7_fewestKeepers (d + 2 + 1) 31 [some (.ref 52), some (.ref 2), some (.int (nI (bsF σ s))), some (.int (nI (s + 1))), none] [] σ1 (k_qi K)) ∧ (y2 = (nI 268435455) → WP E shC mX7_fewestKeepers (d + 2 + 1) 31 [some (.ref 52), some (.ref 2), some (.int (nI s)), some (.int (nI (s + 1))), none] [] σ1 (k_qi K))) := by
        intro cnd
        refine T_daysKeptBy ?_
        rw [k_put_at]
        simp only [bsF] at ih
        refine ⟨fun z => ?_, fun z => ?_⟩
        · rw [kp] at z
          rw [if_neg (fun w => z w.2)] at ih
          exact ih
        · rw [kp] at z
          rw [if_pos ⟨cnd, z⟩] at ih
          exact ih
      apply vb_Thoughts_fewestKeepers_31
      rw [k_put_ne (by decide : (2 : Nat) ≠ 53), e2, sh_n _ hn, nI_leI (by omega) (by omega), nI_add]
      refine ⟨fun z => absurd z (by omega), fun _ => ⟨fun c => ⟨fun z => absurd z (by decide), fun _ => go ?_⟩, fun c => T_bitCount (T_bitCount ?_)⟩⟩
      · simp (disch := omega) only [nI_clamp, nI_add, pk_mul, pk_sub, ↓pk_rem, pk_div, k_mod, k_m1, nI_ltI, nI_leI, nI_eq, k_n0lt, k_nle0, k_0ltn, k_0len, k_n0eq, k_vin, Nat.reduceAdd, Nat.reduceMul, Nat.reduceLT, Nat.reduceLeDiff, Nat.reduceSub, Nat.reduceEqDiff, Nat.zero_add, Nat.add_zero] at c
        exact Or.inl c
      · rw [b1, b2, nI_leI (by omega) (by omega)]
        have c0 : bsF σ s ≠ 0 := fun z => c (by rw [z]; rfl)
        refine ⟨fun c2 => ⟨fun _ => ?_, fun z => absurd rfl z⟩, fun c2 => ⟨fun z => absurd z (by decide), fun _ => go (Or.inr (by omega))⟩⟩
        simp only [bsF] at ih
        rw [if_neg (fun w => by rcases w.1 with w1 | w1 <;> omega)] at ih
        exact ih
  have first : ∀ r k, k + r = nP σ → ∀ g, (∀ p, p < k → g p = udF σ p 28) → WP E shC mX7_fewestKeepers (d + 2 + 1) 2 [some (.ref 52), some (.ref 2), some (.int (nI k)), none, none] [] (k_put σ 53 g) (k_qi K) := by
    intro r
    induction r with
    | zero =>
      intro k hk g hg
      have e : k = nP σ := by omega
      apply vb_Thoughts_fewestKeepers_2
      rw [k_put_ne (by decide : (2 : Nat) ≠ 53), e2, e]
      refine ⟨fun _ => ?_, fun z => absurd (Int32.le_refl _) z⟩
      have z := second g (by rw [← e]; exact hg) (2 ^ nP σ - 1) 1 (by omega)
      have e1 : bsF σ 1 = 0 := by
        simp only [bsF]
        exact if_neg (fun w => kpF_0 w.2)
      rw [e1] at z
      exact z
    | succ r ih =>
      intro k hk g hg
      apply vb_Thoughts_fewestKeepers_2
      rw [k_put_ne (by decide : (2 : Nat) ≠ 53), e2, nI_leI (by omega) (by omega), nI_add, show (nI k).toNatClampNeg = k from nI_clamp (by omega)]
      refine ⟨fun z => absurd z (by omega), fun _ => T_upDays (by omega) ⟨vp_in_nI (by omega) (by decide), ?_⟩⟩
      rintro _ rfl
      have eu : udF (k_put σ 53 g) k 28 = udF σ k 28 := by
        have : ∀ q, udF (k_put σ 53 g) k q = udF σ k q := by
          intro q
          induction q with
          | zero => rfl
          | succ q iq => simp only [udF, iq]; rfl
        exact this 28
      rw [k_put_put, k_put_at, eu]
      refine ih (k + 1) (by omega) _ (fun p hp => ?_)
      by_cases e : p = k
      · subst e; rw [upd_at]
      · rw [upd_ne e]; exact hg p (by omega)
  have z := first (nP σ) 0 (by omega) (σ 53) (fun p hp => absurd hp (Nat.not_lt_zero p))
  have es : k_put σ 53 (σ 53) = σ := by
    funext i
    unfold k_put
    split
    · next e => rw [e]
    · rfl
  rw [es] at z
  exact z
theorem T_doKeep {s : Nat} (hs : s < 64) (hW : RW σ (τ 1)) (h : K (k_b (kpF σ s)) τ) : CallI E shR (d + 3) mX11_doKeep [.ref 0, .int (nI s)] τ K := by
  have hn := nP_le hW.a
  have e2 : τ 1 2 = nI (nP σ) := hW.ra.1.trans (cl_lt hW.a.1 (by decide)).2
  refine vc_Md_doKeep ?_
  have days : ∀ r q, q + r = 28 → (∀ q', q' < q → ∃ p, p < nP σ ∧ bt (nI s) p = true ∧ 0 < lvF σ p q') → WP E shR mX11_doKeep (d + 2 + 1) 2 [some (.ref 0), some (.int (nI s)), some (.int (nI q)), none, none] [] τ (k_qi K) := by
    intro r
    induction r with
    | zero =>
      intro q hq hk
      have e : q = 28 := by omega
      subst e
      apply vb_Md_doKeep_2
      have hk' : kpF σ s := hk
      rw [k_bT hk'] at h
      exact ⟨fun _ => h, fun z => absurd (Int32.le_refl _) z⟩
    | succ r ih =>
      intro q hq hk
      apply vb_Md_doKeep_2
      rw [nI_leI (by omega) (by omega)]
      refine ⟨fun z => absurd z (by omega), fun _ => ?_⟩
      have pp : ∀ r2 k, k + r2 = nP σ → WP E shR mX11_doKeep (d + 2 + 1) 13 [some (.ref 0), some (.int (nI s)), some (.int (nI q)), some (.int (k_b (∃ p, p < k ∧ bt (nI s) p = true ∧ 0 < lvF σ p q))), some (.int (nI k))] [] τ (k_qi K) := by
        intro r2
        induction r2 with
        | zero =>
          intro k hk2
          have e : k = nP σ := by omega
          apply vb_Md_doKeep_13
          simp (disch := omega) only [nI_clamp, nI_add, pk_mul, pk_sub, ↓pk_rem, pk_div, k_mod, k_m1, nI_ltI, nI_leI, nI_eq, k_n0lt, k_nle0, k_0ltn, k_0len, k_n0eq, k_vin, Nat.reduceAdd, Nat.reduceMul, Nat.reduceLT, Nat.reduceLeDiff, Nat.reduceSub, Nat.reduceEqDiff, Nat.zero_add, Nat.add_zero, e2, e]
          refine ⟨trivial, fun _ => k_ifn (fun c => ih (q + 1) (by omega) (fun q' hq' => ?_)) (fun c => ?_), fun z => absurd (Nat.le_refl _) z⟩
          · by_cases eq : q' = q
            · rw [eq]; exact c
            · exact hk q' (by omega)
          · rw [k_bF (fun z => c (z q (by omega)))] at h
            exact h
        | succ r2 ih2 =>
          intro k hk2
          have ih2 := ih2 (k + 1) (by omega)
          apply vb_Md_doKeep_13
          rw [bt_test (by omega)]
          simp (disch := omega) only [nI_clamp, nI_add, pk_mul, pk_sub, ↓pk_rem, pk_div, k_mod, k_m1, nI_ltI, nI_leI, nI_eq, k_n0lt, k_nle0, k_0ltn, k_0len, k_n0eq, k_vin, Nat.reduceAdd, Nat.reduceMul, Nat.reduceLT, Nat.reduceLeDiff, Nat.reduceSub, Nat.reduceEqDiff, Nat.zero_add, Nat.add_zero, e2]
          have no : (¬ ∃ p, p < k ∧ bt (nI s) p = true ∧ 0 < lvF σ p q) → ¬ (bt (nI s) k = true ∧ 0 < lvF σ k q) → ¬ ∃ p, p < k + 1 ∧ bt (nI s) p = true ∧ 0 < lvF σ p q := by
            rintro a b ⟨p, c1, c2⟩
            by_cases e : p = k
            · subst e; exact b c2
            · exact a ⟨p, by omega, c2⟩
          refine ⟨trivial, fun z => absurd z (by omega), fun _ => k_ifn (fun c => ?_) (fun c => ⟨fun c2 => ?_, fun c2 => T_MisUp hW.ra (by omega) (by omega) (k_if (fun c3 => ?_) (fun c3 => ?_))⟩)⟩
          · obtain ⟨p, c1, c2⟩ := c
            rw [k_bT ⟨p, by omega, c2⟩] at ih2
            exact ih2
          · rw [k_bF (no c (fun z => c2 z.1))] at ih2
            exact ih2
          · rw [k_bF (no c (fun z => c3 z.2))] at ih2
            exact ih2
          · rw [k_bT ⟨k, by omega, c2, c3⟩] at ih2
            exact ih2
      have z := pp (nP σ) 0 (by omega)
      rw [k_bF (by rintro ⟨p, c, -⟩; exact absurd c (Nat.not_lt_zero p))] at z
      exact z
  exact days 28 0 rfl (fun q hq => absurd hq (Nat.not_lt_zero q))
theorem P_keepers (hR : RR σ τ) (h : ∀ v σ' τ', RR σ' τ' → Z v v σ' τ') : CallI E shC (d + 4) mX10_keepers [.ref 0, .int x1] σ (fun v σ' => CallI E' shR (d' + 4) mX11_keepers [.ref 0, .int x1] τ (fun w τ' => Z v w σ' τ')) := by
  have hA := hR.rw.a
  have hn := nP_le hA
  have e2 : τ 1 2 = nI (nP σ) := hR.rw.ra.1.trans (cl_lt hA.1 (by decide)).2
  have hw := pw_n (nP σ) hn
  refine vc_SD_keepers (T_isWithin (k_ifn (fun q => ?_) (fun q => T_err (by decide) ?_)))
  rotate_left
  · exact vc_Md_keepers (T_in (k_ifnF q (T_Merr1 (h _ _ _ (hR.err (by decide))))))
  refine T_fewest hA (fun g => ?_)
  have hb := bsF_le σ (2 ^ nP σ)
  have lt : bsF σ (2 ^ nP σ) < 64 := by
    have : ∀ s, 1 ≤ s → bsF σ s < s := by
      intro s
      induction s with
      | zero => intro h; omega
      | succ s ih =>
        intro _
        have := bsF_le σ s
        simp only [bsF]
        split <;> omega
    have := this _ hw.1
    omega
  have hRg : RR (k_put σ 53 g) τ := hR.d1 (eqD.put (by decide))
  have loop : ∀ {v : Int32} {σ' : Sg} (fin : ∀ τ', τ' = τ → (bsF σ (2 ^ nP σ) = 0 → CallI E' shR (d' + 3) mX11_error [.ref 0, .int (-1000000002 : Int32)] τ (fun w τ' => Z v w σ' τ')) ∧ (bsF σ (2 ^ nP σ) ≠ 0 → (¬ x1 = 0 → Z v (nI (bsF σ (2 ^ nP σ))) σ' τ) ∧ (x1 = 0 → Z v (nI (pcN (nI (bsF σ (2 ^ nP σ))) 6)) σ' τ))), ∀ r s, s + r = 2 ^ nP σ → WP E' shR mX11_keepers (d' + 3 + 1) 20 [some (.ref 0), some (.int x1), some (.int (if bsF σ s = 0 then (-1 : Int32) else nI (bsF σ s))), some (.int (nI s))] [] τ (k_qi fun w τ' => Z v w σ' τ') := by
    intro v σ' fin r
    induction r with
    | zero =>
      intro s hs
      have e : s = 2 ^ nP σ := by omega
      have fin := fin τ rfl
      apply vb_Md_keepers_20
      rw [show (nI 2).toNatClampNeg = 2 from rfl, e2, sh_n _ hn, e]
      refine ⟨vp_in_nI (by decide) (by decide), fun _ => ?_, fun z => absurd (Int32.le_refl _) z⟩
      by_cases c : bsF σ (2 ^ nP σ) = 0
      · rw [if_pos c]
        exact ⟨fun z => absurd z (by decide), fun _ => fin.1 c⟩
      · rw [if_neg c]
        simp (disch := omega) only [nI_clamp, nI_add, pk_mul, pk_sub, ↓pk_rem, pk_div, k_mod, k_m1, nI_ltI, nI_leI, nI_eq, k_n0lt, k_nle0, k_0ltn, k_0len, k_n0eq, k_vin, Nat.reduceAdd, Nat.reduceMul, Nat.reduceLT, Nat.reduceLeDiff, Nat.reduceSub, Nat.reduceEqDiff, Nat.zero_add, Nat.add_zero]
        exact ⟨fun _ => ⟨fun c2 => (fin.2 c).1 c2, fun c2 => T_bits lt ((fin.2 c).2 c2)⟩, fun z => absurd trivial z⟩
    | succ r ih =>
      intro s hs
      have ih := ih (s + 1) (by omega)
      have hb := bsF_le σ s
      have p1 : ∀ t, pcN (nI t) 6 ≤ 6 := by
        intro t
        simp only [pcN]
        repeat' split
        all_goals omega
      have q1 := p1 s
      have q2 := p1 (bsF σ s)
      have go : ∀ (cnd : bsF σ s = 0 ∨ pcN (nI s) 6 < pcN (nI (bsF σ s)) 6), CallI E' shR (d' + 3) mX11_doKeep [.ref 0, .int (nI s)] τ (fun y6 σ5 => (y6 = 0 → WP E' shR mX11_keepers (d' + 3 + 1) 20 [some (.ref 0), some (.int x1), some (.int (if bsF σ s = 0 then (-1 : Int32) else nI (bsF σ s))), some (.int (nI (s + 1)))] [] σ5 (k_qi fun w τ' => Z v w σ' τ')) ∧ (¬ y6 = 0 → WP E' shR mX11_keepers (d' + 3 + 1) 20 [some (.ref 0), some (.int x1), some (.int (nI s)), some (.int (nI (s + 1)))] [] σ5 (k_qi fun w τ' => Z v w σ' τ'))) := by
        intro cnd
        refine T_doKeep (by omega) hR.rw (k_if (fun c => ?_) (fun c => ?_))
        · have e : bsF σ (s + 1) = bsF σ s := by simp only [bsF]; exact if_neg (fun w => c w.2)
          rw [e] at ih
          exact ih
        · have e : bsF σ (s + 1) = s := by simp only [bsF]; exact if_pos ⟨cnd, c⟩
          have s0 : s ≠ 0 := by intro z; subst z; exact kpF_0 c
          rw [e, if_neg s0] at ih
          exact ih
      apply vb_Md_keepers_20
      rw [show (nI 2).toNatClampNeg = 2 from rfl, e2, sh_n _ hn, nI_leI (by omega) (by omega), nI_add]
      refine ⟨vp_in_nI (by decide) (by decide), fun z => absurd z (by omega), fun _ => ?_⟩
      by_cases c : bsF σ s = 0
      · have g := go (Or.inl c)
        rw [if_pos c] at g ⊢
        exact ⟨fun _ => g, fun z => absurd (by decide) z⟩
      · have g := fun z => go (Or.inr z)
        rw [if_neg c] at g ⊢
        refine ⟨fun z => ?_, fun _ => T_bits (by omega) (T_bits (by omega) ?_)⟩
        · simp (disch := omega) only [nI_clamp, nI_add, pk_mul, pk_sub, ↓pk_rem, pk_div, k_mod, k_m1, nI_ltI, nI_leI, nI_eq, k_n0lt, k_nle0, k_0ltn, k_0len, k_n0eq, k_vin, Nat.reduceAdd, Nat.reduceMul, Nat.reduceLT, Nat.reduceLeDiff, Nat.reduceSub, Nat.reduceEqDiff, Nat.zero_add, Nat.add_zero] at z
        · rw [nI_leI (by omega) (by omega)]
          refine ⟨fun z => ?_, fun z => g (by omega)⟩
          have e : bsF σ (s + 1) = bsF σ s := by simp only [bsF]; exact if_neg (fun w => by rcases w.1 with w1 | w1 <;> omega)
          rw [e, if_neg c] at ih
          exact ih
  have ref : ∀ {v : Int32} {σ' : Sg} (fin : ∀ τ', τ' = τ → (bsF σ (2 ^ nP σ) = 0 → CallI E' shR (d' + 3) mX11_error [.ref 0, .int (-1000000002 : Int32)] τ (fun w τ' => Z v w σ' τ')) ∧ (bsF σ (2 ^ nP σ) ≠ 0 → (¬ x1 = 0 → Z v (nI (bsF σ (2 ^ nP σ))) σ' τ) ∧ (x1 = 0 → Z v (nI (pcN (nI (bsF σ (2 ^ nP σ))) 6)) σ' τ))), CallI E' shR (d' + 4) mX11_keepers [.ref 0, .int x1] τ (fun w τ' => Z v w σ' τ') := by
    intro v σ' fin
    refine vc_Md_keepers (T_in (k_ifnT q ?_))
    have z := loop fin (2 ^ nP σ) 0 (by omega)
    exact z
  refine ⟨fun c => ⟨fun c2 => ref (fun τ' _ => ⟨fun z => absurd (by rw [z]; rfl) c, fun _ => ⟨fun _ => h _ _ _ hRg, fun z => absurd z c2⟩⟩), fun c2 => T_bitCount (ref (fun τ' _ => ⟨fun z => absurd (by rw [z]; rfl) c, fun _ => ⟨fun z => absurd c2 z, fun _ => ?_⟩⟩))⟩, fun c => T_err (by decide) (ref (fun τ' _ => ⟨fun _ => T_Merr2 (h _ _ _ (hRg.err (by decide))), fun z => ?_⟩))⟩
  · rw [bc_64 _ lt]
    exact h _ _ _ hRg
  · simp (disch := omega) only [nI_clamp, nI_add, pk_mul, pk_sub, ↓pk_rem, pk_div, k_mod, k_m1, nI_ltI, nI_leI, nI_eq, k_n0lt, k_nle0, k_0ltn, k_0len, k_n0eq, k_vin, Nat.reduceAdd, Nat.reduceMul, Nat.reduceLT, Nat.reduceLeDiff, Nat.reduceSub, Nat.reduceEqDiff, Nat.zero_add, Nat.add_zero] at c
    exact absurd c z
end P45
