/-! promise 25: buys, both sides -/
def elV (σ : Sg) (p o : Nat) : Nat → Int32
  | 0 => nI 0
  | k + 1 => if σ 7 (p * 28 + k) ≤ 0 then elV σ p o k else if nI 9 ≤ σ 7 (o * 28 + k) then elV σ p o k else elV σ p o k ||| ((nI 1) <<< ((nI k) &&& 31))
theorem elV_bt {σ : Sg} {p o j : Nat} (hj : j < 32) : ∀ k, k ≤ 28 → (bt (elV σ p o k) j = true ↔ j < k ∧ ¬ σ 7 (p * 28 + j) ≤ 0 ∧ ¬ nI 9 ≤ σ 7 (o * 28 + j))
  | 0, _ => by
    simp only [elV, bt_0]
    exact ⟨fun h => (Bool.noConfusion h), fun h => absurd h.1 (Nat.not_lt_zero j)⟩
  | k + 1, hk => by
    have ih := elV_bt (σ := σ) (p := p) (o := o) hj k (by omega)
    simp only [elV]
    by_cases c1 : σ 7 (p * 28 + k) ≤ 0
    · rw [if_pos c1, ih]
      constructor
      · rintro ⟨a, b⟩; exact ⟨by omega, b⟩
      · rintro ⟨a, b⟩
        refine ⟨?_, b⟩
        by_cases e : j = k
        · subst e; exact absurd c1 b.1
        · omega
    · rw [if_neg c1]
      by_cases c2 : nI 9 ≤ σ 7 (o * 28 + k)
      · rw [if_pos c2, ih]
        constructor
        · rintro ⟨a, b⟩; exact ⟨by omega, b⟩
        · rintro ⟨a, b⟩
          refine ⟨?_, b⟩
          by_cases e : j = k
          · subst e; exact absurd c2 b.2
          · omega
      · rw [if_neg c2, bt_or (by omega) hj, Bool.or_eq_true, ih, decide_eq_true_iff]
        constructor
        · rintro (⟨a, b⟩ | e)
          · exact ⟨by omega, b⟩
          · subst e; exact ⟨by omega, c1, c2⟩
        · rintro ⟨a, b⟩
          by_cases e : j = k
          · exact Or.inr e
          · exact Or.inl ⟨by omega, b⟩
abbrev pkF (σ : Sg) (p : Nat) (j : Nat) : Nat := cl (priceF σ p j)
theorem pkF_eq (σ : Sg) (p j : Nat) : priceF σ p j = nI (pkF σ p j) ∧ pkF σ p j < 1000 := by
  have := cl_lt (priceF_lt σ p j) (by decide)
  exact ⟨this.2, this.1⟩
theorem priceF_d {σ σ' : Sg} (e : eqD σ σ') (p q : Nat) : priceF σ' p q = priceF σ p q := by
  unfold priceF prF
  rw [e 7 (by decide), e 13 (by decide), e 14 (by decide)]
theorem IvX.congrD {σ σ' : Sg} (h : IvX σ) (e : eqD σ σ') : IvX σ' := by
  unfold IvX at *
  rw [e 13 (by decide), e 14 (by decide), e 17 (by decide), e 18 (by decide)]; exact h
theorem gF_s (pk : Nat → Nat) (m : Nat) (v : Int32) (money : Nat) : gF pk (m + 1) v money = if lsF (fun _ => 0) pk v 28 = 28 then 0 else if money < pk (lsF (fun _ => 0) pk v 28) then 0 else 1 + gF pk m (clrB v (lsF (fun _ => 0) pk v 28)) (money - pk (lsF (fun _ => 0) pk v 28)) := rfl
section P61
variable {E E' : KE} {S : Shp} {d d' : Nat} {x1 x2 x3 : Int32} {σ τ : Sg} {Z : Int32 → Int32 → Sg → Sg → Prop} {K : Int32 → Sg → Prop} {L : Sg → Prop}
theorem T_howManyBought {p o money : Nat} (hx : IvX σ) (hp : p < 6) (ho : o < 6) (hm : money < 10000) (em : σ 6 o = nI money) (h : ∀ σ', eqD σ σ' → K (nI (gF (pkF σ p) 28 (elV σ p o 28) money)) σ') : CallI E shC (d + 4) mX7_howManyBought [.ref 52, .ref 1, .int (nI p), .int (nI o)] σ K := by
  refine vc_Thoughts_howManyBought ?_
  have ecl : cl (σ 6 o) = money := by rw [em]; exact nI_clamp (by omega)
  generalize hG : gF (pkF σ p) 28 (elV σ p o 28) money = G at h
  have second : ∀ σ1, eqD σ σ1 → TH (fun _ => 0) (pkF σ p) σ1 → ∀ r i v money b, i + r = 28 → money < 10000 → b ≤ i → b + gF (pkF σ p) r v money = G → WP E shC mX7_howManyBought (d + 3 + 1) 95 [some (.ref 52), none, none, none, some (.int v), some (.int (nI money)), some (.int (nI b)), some (.int (nI i)), none] [] σ1 (k_qi K) := by
    intro σ1 e1 hT r
    induction r with
    | zero =>
      intro i v mo b hi hmo hb e
      have ei : i = 28 := by omega
      subst ei
      apply vb_Thoughts_howManyBought_95
      refine ⟨fun _ => ?_, fun z => absurd (Int32.le_refl _) z⟩
      have := h σ1 e1
      have e : b = G := e
      rw [← e] at this
      exact this
    | succ r ih =>
      intro i v mo b hi hmo hb e
      rw [gF_s (pkF σ p) r v mo] at e
      have ok := lsF_ok (hk := fun _ => 0) (pk := pkF σ p) (v := v) 28 (Nat.le_refl _)
      have fin : G = b → K (nI b) σ1 := by
        intro ee
        have := h σ1 e1
        rw [ee] at this
        exact this
      apply vb_Thoughts_howManyBought_95
      rw [nI_leI (by omega) (by omega)]
      refine ⟨fun z => absurd z (by omega), fun _ => T_leastOf hT (fun c => ⟨fun _ => fin ?_, fun z => absurd rfl z⟩) (fun c => ⟨fun z => absurd z (ne_m1 (by omega)), fun _ => ⟨vp_in_nI c (by decide), ?_⟩⟩)⟩
      · rw [if_pos c] at e
        exact e.symm
      · rw [if_neg (by omega)] at e
        generalize lsF (fun _ => 0) (pkF σ p) v 28 = q at c e
        have hq := (hT q c).2
        rw [show (nI q).toNatClampNeg = q from nI_clamp (by omega), hq.1, nI_leI (by omega) (by omega), nI_add, nI_add]
        refine ⟨fun z => ⟨vp_in_nI c (by decide), ?_⟩, fun z => fin ?_⟩
        · rw [if_neg (by omega)] at e
          rw [pk_sub (by omega)]
          exact ih (i + 1) (clrB v q) _ (b + 1) (by omega) (by omega) (by omega) (by omega)
        · rw [if_pos (by omega)] at e
          exact e.symm
  have first : ∀ r k, k + r = 28 → ∀ σ1, eqD σ σ1 → (∀ j, j < k → σ1 55 j = nI 0 ∧ σ1 54 j = nI (pkF σ p j)) → WP E shC mX7_howManyBought (d + 3 + 1) 6 [some (.ref 52), some (.ref 1), some (.int (nI p)), some (.int (nI o)), some (.int (elV σ p o k)), some (.int (nI k)), none, none, none] [] σ1 (k_qi K) := by
    intro r
    induction r with
    | zero =>
      intro k hk σ1 e1 ht
      have e : k = 28 := by omega
      subst e
      apply vb_Thoughts_howManyBought_6
      refine ⟨fun _ => ⟨vp_in_nI ho (by decide), ?_⟩, fun z => absurd (Int32.le_refl _) z⟩
      rw [show (nI o).toNatClampNeg = o from nI_clamp (by omega), e1 6 (by decide), em]
      refine second σ1 e1 (fun j hj => ⟨⟨(ht j hj).1, (by decide : (0 : Nat) < 100)⟩, ⟨(ht j hj).2, (pkF_eq σ p j).2⟩⟩) 28 0 _ _ 0 rfl hm (Nat.le_refl _) ?_
      rw [Nat.zero_add]; exact hG
    | succ r ih =>
      intro k hk σ1 e1 ht
      have ih := ih (k + 1) (by omega)
      simp only [elV] at ih
      apply vb_Thoughts_howManyBought_6
      rw [nI_leI (by omega) (by omega)]
      refine ⟨fun z => absurd z (by omega), fun _ => T_priceOf (hx.congrD e1) hp (by omega) (fun σ2 e2 => ⟨vp_in_nI (by omega) (by decide), ?_⟩)⟩
      rintro _ rfl
      refine ⟨vp_in_nI (by omega) (by decide), ?_⟩
      rintro _ rfl
      rw [show (nI k).toNatClampNeg = k from nI_clamp (by omega), priceF_d e1, (pkF_eq σ p k).1, k_put_ne (by decide : (55 : Nat) ≠ 54)]
      have e3 : eqD σ (k_put (k_put σ2 54 (upd (σ2 54) k (nI (pkF σ p k)))) 55 (upd (σ2 55) k (nI 0))) := ((e1.tr e2.d).tr (eqD.put (by decide))).tr (eqD.put (by decide))
      have ht3 : ∀ j, j < k + 1 → (k_put (k_put σ2 54 (upd (σ2 54) k (nI (pkF σ p k)))) 55 (upd (σ2 55) k (nI 0))) 55 j = nI 0 ∧ (k_put (k_put σ2 54 (upd (σ2 54) k (nI (pkF σ p k)))) 55 (upd (σ2 55) k (nI 0))) 54 j = nI (pkF σ p j) := by
        intro j hj
        rw [k_put_at, k_put_ne (by decide), k_put_at]
        by_cases ej : j = k
        · rw [ej, upd_at, upd_at]; exact ⟨rfl, rfl⟩
        · rw [upd_ne ej, upd_ne ej, e2 55 (by decide), e2 54 (by decide)]
          exact ht j (by omega)
      generalize k_put (k_put σ2 54 (upd (σ2 54) k (nI (pkF σ p k)))) 55 (upd (σ2 55) k (nI 0)) = σ4 at e3 ht3
      have ih := ih σ4 e3 ht3
      refine T_timesOf hp (by omega) ⟨fun c => ?_, fun c => T_timesOf ho (by omega) ⟨fun c2 => ?_, fun c2 => ?_⟩⟩
      · rw [e3 7 (by decide)] at c
        rw [if_pos c] at ih
        rw [nI_add]; exact ih
      · rw [e3 7 (by decide)] at c c2
        rw [if_neg c, if_pos c2] at ih
        rw [nI_add]; exact ih
      · rw [e3 7 (by decide)] at c c2
        rw [if_neg c, if_neg c2] at ih
        rw [nI_add]; exact ih
  exact first 28 0 rfl σ eqD.rf (fun j hj => absurd hj (Nat.not_lt_zero j))
theorem T_costing {p o pr : Nat} (hW : RW σ (τ 1)) (hp : p < 6) (ho : o < 6) (hpr : pr < 1000) (h : ∀ τ', eqR τ τ' → K (nI (cF (pkF σ p) (elV σ p o 28) pr 28)) τ') : CallI E shR (d + 4) mX11_costing [.ref 0, .int (nI p), .int (nI o), .int (nI pr)] τ K := by
  refine vc_Md_costing ?_
  have loop : ∀ r k, k + r = 28 → ∀ τ1, eqR τ τ1 → WP E shR mX11_costing (d + 3 + 1) 6 [some (.ref 0), some (.int (nI p)), some (.int (nI o)), some (.int (nI pr)), some (.int (nI (cF (pkF σ p) (elV σ p o 28) pr k))), some (.int (nI k)), none] [] τ1 (k_qi K) := by
    intro r
    induction r with
    | zero =>
      intro k hk τ1 f1
      have e : k = 28 := by omega
      subst e
      apply vb_Md_costing_6
      exact ⟨fun _ => h _ f1, fun z => absurd (Int32.le_refl _) z⟩
    | succ r ih =>
      intro k hk τ1 f1
      have ih := ih (k + 1) (by omega)
      have hW1 : RW σ (τ1 1) := by rw [f1 1 rfl]; exact hW
      have bt' := elV_bt (σ := σ) (p := p) (o := o) (j := k) (by omega) 28 (Nat.le_refl _)
      simp only [cF] at ih
      apply vb_Md_costing_6
      rw [nI_leI (by omega) (by omega), nI_add, nI_add, nI_add, nI_add, Nat.add_zero]
      refine ⟨fun z => absurd z (by omega), fun _ => T_Mof hp (by omega) ?_⟩
      rw [(hW1.ra.2 p hp).2 k (by omega)]
      refine ⟨fun c => ⟨fun _ => ?_, fun z => absurd rfl z⟩, fun c => T_Mof ho (by omega) ?_⟩
      · rw [if_neg (fun z => (bt'.mp z.1).2.1 c), Nat.add_zero] at ih
        exact ih _ f1
      · rw [(hW1.ra.2 o ho).2 k (by omega)]
        refine ⟨fun c2 => ⟨fun _ => ?_, fun z => absurd rfl z⟩, fun c2 => ⟨fun z => absurd z (by decide), fun _ => T_MpriceOf hW1.ra hW1.x hp (by omega) (fun τ2 f2 => ?_)⟩⟩
        · rw [if_neg (fun z => (bt'.mp z.1).2.2 c2), Nat.add_zero] at ih
          exact ih _ f1
        · have pe := pkF_eq σ p k
          rw [pe.1, nI_eq (by omega) (by omega)]
          have bk : bt (elV σ p o 28) k = true := bt'.mpr ⟨by omega, c, c2⟩
          refine ⟨fun c3 => ?_, fun c3 => ?_⟩
          · rw [if_neg (fun z => c3 z.2), Nat.add_zero] at ih
            exact ih _ (f1.tr f2)
          · rw [if_pos ⟨bk, c3⟩] at ih
            exact ih _ (f1.tr f2)
  exact loop 28 0 rfl τ eqR.rf
theorem P_buys (hR : RR σ τ) (h : ∀ v σ' τ', RR σ' τ' → Z v v σ' τ') : CallI E shC (d + 5) mX10_buys [.ref 0, .int x1, .int x2] σ (fun v σ' => CallI E' shR (d' + 5) mX11_buys [.ref 0, .int x1, .int x2] τ (fun w τ' => Z v w σ' τ')) := by
  have hA := hR.rw.a
  have hRA := hR.rw.ra
  have hn := nP_le hA
  refine vc_SD_buys (T_areTwo hA (k_ifn (fun q => ?_) (fun q => T_err (by decide) ?_)))
  rotate_left
  · exact vc_Md_buys (T_MareTwo hA hRA (k_ifnF q (T_Merr1 (h _ _ _ (hR.err (by decide))))))
  obtain ⟨⟨p, hp, rfl⟩, ⟨o, ho, rfl⟩, hpo⟩ := id q
  obtain ⟨money, hm, em⟩ := (hA.2 o (by omega)).1.2.2.2
  have rm : τ 1 (10 + 32 * o + 3) = nI money := ((hRA.2 o (by omega)).1.2.2.2).trans em
  refine T_howManyBought hR.rw.x.iv (by omega) (by omega) hm em (fun σ' e' => ?_)
  rw [g_r 1000 0 rfl _ 28 _ money rfl (fun j hj _ => ⟨Nat.zero_le _, (pkF_eq σ p j).2⟩) (toF_le _ _)]
  generalize hRe : rF (pkF σ p) 1000 0 money (elV σ p o 28) = R
  refine vc_Md_buys (T_MareTwo hA hRA (k_ifnT q (T_Mof (w := 3) (by omega) (by decide) ?_)))
  rw [rm]
  have loop : ∀ f pr mo b, pr + f = 1000 → mo < 10000 → b ≤ 28 * pr → b + rF (pkF σ p) f pr mo (elV σ p o 28) = R → ∀ τ1, eqR τ τ1 → WP E' shR mX11_buys (d' + 4 + 1) 29 [some (.ref 0), some (.int (nI p)), some (.int (nI o)), some (.int (nI mo)), some (.int (nI b)), some (.int (nI pr)), none, none, none] [] τ1 (k_qi fun w τ' => Z (nI R) w σ' τ') := by
    intro f
    induction f with
    | zero =>
      intro pr mo b hpr hmo hb e τ1 f1
      apply vb_Md_buys_29
      rw [nI_ltI (by omega) (by omega)]
      have e : b = R := e
      rw [e]
      exact ⟨fun _ => h _ _ _ (hR.congrW e' f1.m), fun z => absurd (by omega) z⟩
    | succ f ih =>
      intro pr mo b hpr hmo hb e τ1 f1
      have hW1 : RW σ (τ1 1) := by rw [f1 1 rfl]; exact hR.rw
      have ef : rF (pkF σ p) (f + 1) pr mo (elV σ p o 28) = if mo < pr then 0 else if cF (pkF σ p) (elV σ p o 28) pr 28 ≤ (if pr = 0 then cF (pkF σ p) (elV σ p o 28) pr 28 else mo / pr) then cF (pkF σ p) (elV σ p o 28) pr 28 + rF (pkF σ p) f (pr + 1) (mo - cF (pkF σ p) (elV σ p o 28) pr 28 * pr) (elV σ p o 28) else mo / pr := rfl
      rw [ef] at e
      apply vb_Md_buys_29
      rw [nI_ltI (by omega) (by omega), nI_ltI (by omega) (by omega)]
      refine ⟨fun z => absurd z (by omega), fun _ => ⟨fun c => ?_, fun c => T_costing hW1 (by omega) (by omega) (by omega) (fun τ2 f2 => ?_)⟩⟩
      · rw [if_pos c] at e
        have e : b = R := e
        rw [e]
        exact h _ _ _ (hR.congrW e' f1.m)
      · rw [if_neg c] at e
        have cle : cF (pkF σ p) (elV σ p o 28) pr 28 ≤ 28 := by
          have : ∀ k, cF (pkF σ p) (elV σ p o 28) pr k ≤ k := by
            intro k
            induction k with
            | zero => exact Nat.le_refl _
            | succ k ihk =>
              simp only [cF]
              split <;> omega
          exact this 28
        generalize cF (pkF σ p) (elV σ p o 28) pr 28 = cn at e cle
        have f12 := f1.tr f2
        have hfin : b + mo / pr = R → Z (nI R) (nI (b + mo / pr)) σ' τ2 := by
          intro ee
          rw [ee]
          exact h _ _ _ (hR.congrW e' f12.m)
        by_cases p0 : pr = 0
        · subst p0
          refine ⟨fun z => absurd rfl z, fun _ => ⟨fun _ => ⟨fun _ => ?_, fun z => absurd (Int32.le_refl _) z⟩, fun z => absurd (Int32.le_refl _) z⟩⟩
          rw [if_pos rfl, if_pos (Nat.le_refl _), Nat.mul_zero, Nat.sub_zero] at e
          rw [pk_mul, Nat.mul_zero, nI_add, nI_add, pk_sub (Nat.zero_le _), Nat.sub_zero]
          exact ih (0 + 1) mo (b + cn) (by omega) hmo (by omega) (by omega) τ2 f12
        · have nz : ¬ nI pr = 0 := by rw [k_n0eq (by omega)]; exact p0
          rw [if_neg p0] at e
          have dle : mo / pr ≤ mo := Nat.div_le_self _ _
          have ed : nI mo / nI pr = nI (mo / pr) := by rw [pk_div] <;> omega
          refine ⟨fun _ => ⟨nz, ?_⟩, fun z => absurd z nz⟩
          rw [ed, nI_leI (by omega) (by omega), nI_leI (by omega) (by omega)]
          have mul_le : ∀ x, x ≤ mo / pr → x * pr ≤ mo := fun x hx => Nat.le_trans (Nat.mul_le_mul_right _ hx) (Nat.div_mul_le_self _ _)
          have go : ∀ x, x = cn → x ≤ mo / pr → WP E' shR mX11_buys (d' + 4 + 1) 29 [some (.ref 0), some (.int (nI p)), some (.int (nI o)), some (.int (nI mo - nI x * nI pr)), some (.int (nI b + nI x)), some (.int (nI pr + nI 1)), none, none, none] [] τ2 (k_qi fun w τ' => Z (nI R) w σ' τ') := by
            rintro x rfl hx
            rw [if_pos hx] at e
            have := mul_le x hx
            rw [pk_mul, nI_add, nI_add, pk_sub this]
            exact ih (pr + 1) _ (b + x) (by omega) (by omega) (by omega) (by omega) τ2 f12
          refine ⟨fun z => ⟨fun z2 => go _ (by omega) (Nat.le_refl _), fun z2 => ?_⟩, fun z => ⟨fun _ => go cn rfl (by omega), fun z2 => absurd (Int32.le_refl _) z2⟩⟩
          rw [if_neg z2] at e
          rw [nI_add]
          exact hfin e
  exact loop 1000 0 money 0 (Nat.zero_add _) hm (Nat.zero_le _) ((Nat.zero_add _).trans hRe) τ eqR.rf
end P61
