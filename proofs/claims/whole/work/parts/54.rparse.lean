/-! promises 14, 15: the reference's reading does what the parser does -/
def FR (T τ : Sg) : Prop := (∀ i, i ≠ 0 → i ≠ 8 → i ≠ 9 → τ i = T i) ∧ τ 0 3 = T 0 3 ∧ τ 0 22 = T 0 22
def RSok (T : Sg) (u o pl : Nat) (c : List Nat) (τ : Sg) : Prop := FR T τ ∧ τ 0 16 = nI u ∧ τ 0 14 = nI o ∧ τ 0 13 = nI pl ∧ τ 0 15 = 0 ∧ τ 0 12 = nI c.length ∧ ∀ j, j < c.length → encS (τ 8 j) (τ 9 j) (nI (c.getD j 0))
def RSbad (T : Sg) (u o f : Nat) (τ : Sg) : Prop := FR T τ ∧ τ 0 16 = nI u ∧ τ 0 14 = nI o ∧ τ 0 13 = nI f ∧ ¬ τ 0 15 = 0 ∧ k_lt (τ 0 12) 61
def RPost (T : Sg) (u o : Nat) (c : List Nat) (r : Res) (L : Sg → Prop) : Prop := (r.1 = true → ∀ τ', RSok T u o r.2.1 (c ++ r.2.2) τ' → L τ') ∧ (¬ r.1 = true → ∀ τ', RSbad T u o r.2.1 τ' → L τ')
def RPat (E : KE) (d : Nat) (M : KM) (n : Nat) (T : Sg) (u o : Nat) (pa : Nat → Res) : Prop := ∀ τ pl c L, RSok T u o pl c τ → pl ≤ n → c.length ≤ pl → RPost T u o c (pa pl) L → CallN E shR d M [.ref 0] τ L
/-- the tape of the reference -/
def RTp (T : Sg) (n : Nat) (t : Nat → Int32) : Prop := T 1 8 = nI n ∧ ∀ j, j < n → T 1 (226 + j) = t j
theorem FR.p0 {T τ : Sg} {k : Nat} {v : Int32} (h : FR T τ) (k3 : k ≠ 3) (k22 : k ≠ 22) : FR T (k_put τ 0 (upd (τ 0) k v)) := ⟨fun i a b c => by rw [k_put_ne a]; exact h.1 i a b c, by rw [k_put_at, upd_ne (Ne.symm k3)]; exact h.2.1, by rw [k_put_at, upd_ne (Ne.symm k22)]; exact h.2.2⟩
theorem sg_ops {lev : Nat} : ∀ c, c ∈ sgL lev → c ∈ opsL := by
  intro c hc
  match lev, hc with
  | 0, hc => simp [sgL] at hc; simp [opsL]; omega
  | 1, hc => simp [sgL] at hc; simp [opsL]; omega
  | 2, hc => simp [sgL] at hc; simp [opsL]; omega
  | 3, hc => simp [sgL] at hc; simp [opsL]; omega
  | _ + 4, hc => simp [sgL] at hc; simp [opsL]; omega
theorem sg_200 {lev : Nat} : ∀ c, c ∈ sgL lev → c < 200 := by
  intro c hc
  match lev, hc with
  | 0, hc => simp [sgL] at hc; omega
  | 1, hc => simp [sgL] at hc; omega
  | 2, hc => simp [sgL] at hc; omega
  | 3, hc => simp [sgL] at hc; omega
  | _ + 4, hc => simp [sgL] at hc; omega
section P54
variable {E : KE} {S : Shp} {d u o n pl : Nat} {c : List Nat} {T τ : Sg} {t : Nat → Int32} {K : Int32 → Sg → Prop} {L : Sg → Prop}
theorem T_look (hT : RTp T n t) (hn : n ≤ 60) (h : RSok T u o pl c τ) (hpl : pl ≤ n) (hK : K (hrF t n pl) τ) : CallI E shR d mX11_look [.ref 0] τ K := by
  refine vc_Md_look ?_
  rw [h.1.1 1 (by decide) (by decide) (by decide), h.2.2.2.1]
  simp (disch := omega) only [nI_clamp, nI_add, pk_mul, pk_sub, ↓pk_rem, pk_div, k_mod, k_m1, nI_ltI, nI_leI, nI_eq, k_n0lt, k_nle0, k_0ltn, k_0len, k_n0eq, k_vin, Nat.reduceAdd, Nat.reduceMul, Nat.reduceLT, Nat.reduceLeDiff, Nat.reduceSub, Nat.reduceEqDiff, Nat.zero_add, Nat.add_zero, hT.1]
  unfold hrF at hK
  refine ⟨by first | exact trivial | exact vp_in_nI (by decide) (by decide), fun q => ?_, fun q => ⟨by first | exact trivial | exact vp_in_nI (by omega) (by decide), ?_⟩⟩
  · rw [if_neg (by omega)] at hK; exact hK
  · rw [if_pos (by omega)] at hK
    rw [hT.2 pl (by omega)]; exact hK
theorem T_lookB {f : Nat} (hT : RTp T n t) (hn : n ≤ 60) (h : RSbad T u o f τ) (hf : f ≤ n) (hK : ∀ v, K v τ) : CallI E shR d mX11_look [.ref 0] τ K := by
  refine vc_Md_look ?_
  rw [h.1.1 1 (by decide) (by decide) (by decide), h.2.2.2.1]
  simp (disch := omega) only [nI_clamp, nI_add, pk_mul, pk_sub, ↓pk_rem, pk_div, k_mod, k_m1, nI_ltI, nI_leI, nI_eq, k_n0lt, k_nle0, k_0ltn, k_0len, k_n0eq, k_vin, Nat.reduceAdd, Nat.reduceMul, Nat.reduceLT, Nat.reduceLeDiff, Nat.reduceSub, Nat.reduceEqDiff, Nat.zero_add, Nat.add_zero, hT.1]
  exact ⟨by first | exact trivial | exact vp_in_nI (by decide) (by decide), fun q => hK _, fun q => ⟨by first | exact trivial | exact vp_in_nI (by omega) (by decide), hK _⟩⟩
theorem nm_at : k_tv 2 0 = nI 100 ∧ k_tv 2 1 = nI 119 ∧ k_tv 2 2 = nI 104 ∧ k_tv 2 3 = nI 97 ∧ k_tv 2 4 = nI 116 ∧ k_tv 2 5 = nI 109 := by decide
theorem T_nameOf {b : Int32} (hu : u < 2) (h16 : τ 0 16 = nI u) (h1 : nmF u b < 3 → K (nI (nmF u b)) τ) (h2 : ¬ nmF u b < 3 → K (-1 : Int32) τ) : CallI E shR d mX11_nameOf [.ref 0, .int b] τ K := by
  have hc : u = 0 ∨ u = 1 := by omega
  obtain ⟨t0, t1, t2, t3, t4, t5⟩ := nm_at
  refine vc_Md_nameOf ?_
  rw [h16]
  rcases hc with rfl | rfl
  · refine ⟨fun e => ?_, fun e => ?_, fun e => ?_, fun e => ?_, fun e => ?_, fun e => ?_, fun n1 n2 n3 n4 n5 n6 => ?_⟩
    · subst e; exact ⟨fun z => absurd z (by decide), fun _ => h2 (by decide)⟩
    · subst e; exact ⟨fun _ => ⟨fun z => absurd rfl z, fun _ => h1 (by decide)⟩, fun z => absurd (by decide) z⟩
    · subst e; exact ⟨fun _ => ⟨fun _ => ⟨fun _ => h1 (by decide), fun z => absurd z (by decide)⟩, fun z => absurd z (by decide)⟩, fun z => absurd (by decide) z⟩
    · subst e; exact ⟨fun z => absurd z (by decide), fun _ => h2 (by decide)⟩
    · subst e; exact ⟨fun z => absurd z (by decide), fun _ => h2 (by decide)⟩
    · subst e; exact ⟨fun _ => ⟨fun _ => ⟨fun z => absurd rfl z, fun _ => h1 (by decide)⟩, fun z => absurd z (by decide)⟩, fun z => absurd (by decide) z⟩
    · refine h2 ?_
      unfold nmF
      rw [show 0 * 3 = 0 from rfl, show 0 + 1 = 1 from rfl, show 0 + 2 = 2 from rfl, t0, t1, t2, if_neg (fun e => n2 e.symm), if_neg (fun e => n6 e.symm), if_neg (fun e => n3 e.symm)]
      decide
  · refine ⟨fun e => ?_, fun e => ?_, fun e => ?_, fun e => ?_, fun e => ?_, fun e => ?_, fun n1 n2 n3 n4 n5 n6 => ?_⟩
    · subst e; exact ⟨fun _ => ⟨fun z => absurd rfl z, fun _ => h1 (by decide)⟩, fun z => absurd rfl z⟩
    · subst e; exact ⟨fun z => absurd z (by decide), fun _ => h2 (by decide)⟩
    · subst e; exact ⟨fun z => absurd z (by decide), fun _ => h2 (by decide)⟩
    · subst e; exact ⟨fun _ => ⟨fun _ => ⟨fun _ => h1 (by decide), fun z => absurd z (by decide)⟩, fun z => absurd z (by decide)⟩, fun z => absurd rfl z⟩
    · subst e; exact ⟨fun _ => ⟨fun _ => ⟨fun z => absurd rfl z, fun _ => h1 (by decide)⟩, fun z => absurd z (by decide)⟩, fun z => absurd rfl z⟩
    · subst e; exact ⟨fun z => absurd z (by decide), fun _ => h2 (by decide)⟩
    · refine h2 ?_
      unfold nmF
      rw [show 1 * 3 = 3 from rfl, show 3 + 1 = 4 from rfl, show 3 + 2 = 5 from rfl, t3, t4, t5, if_neg (fun e => n1 e.symm), if_neg (fun e => n5 e.symm), if_neg (fun e => n4 e.symm)]
      decide
theorem T_step {x : Nat} {a w : Int32} (he : encS a w (nI x)) (h : RSok T u o pl c τ) (hc : c.length < 60) (hL : ∀ τ', RSok T u o pl (c ++ [x]) τ' → L τ') : CallN E shR d mX11_step [.ref 0, .int a, .int w] τ L := by
  obtain ⟨h0, h1, h2, h3, h4, h5, h6⟩ := h
  refine vc_Md_step ?_
  rw [h5]
  simp (disch := omega) only [nI_clamp, nI_add, pk_mul, pk_sub, ↓pk_rem, pk_div, k_mod, k_m1, nI_ltI, nI_leI, nI_eq, k_n0lt, k_nle0, k_0ltn, k_0len, k_n0eq, k_vin, Nat.reduceAdd, Nat.reduceMul, Nat.reduceLT, Nat.reduceLeDiff, Nat.reduceSub, Nat.reduceEqDiff, Nat.zero_add, Nat.add_zero]
  refine ⟨fun z => absurd z (by omega), fun _ => ⟨by first | exact trivial | exact vp_in_nI (by omega) (by decide), ?_⟩⟩
  rintro _ rfl
  rw [k_put_ne (by decide), h5]
  refine ⟨vp_in_nI (by omega) (by decide), ?_⟩
  rw [show (nI c.length).toNatClampNeg = c.length from nI_clamp (by omega)]
  rintro _ rfl
  rintro _ rfl
  simp only [k_put_ne (by decide : (0 : Nat) ≠ 9), k_put_ne (by decide : (0 : Nat) ≠ 8), k_put_ne (by decide : (9 : Nat) ≠ 8), h5]
  refine hL _ ⟨⟨fun i a b e => by rw [k_put_ne a, k_put_ne e, k_put_ne b]; exact h0.1 i a b e, h0.2.1, h0.2.2⟩, h1, h2, h3, h4, ?_, fun j hj => ?_⟩
  · rw [k_put_at, upd_at, nI_add, List.length_append]; rfl
  · rw [k_put_ne (by decide : (8 : Nat) ≠ 0), k_put_ne (by decide : (8 : Nat) ≠ 9), k_put_at, k_put_ne (by decide : (9 : Nat) ≠ 0), k_put_at]
    rw [List.length_append] at hj
    have hj : j < c.length + 1 := hj
    by_cases e : j = c.length
    · rw [e, upd_at, upd_at, List.getD_eq_getElem?_getD, List.getElem?_append_right (Nat.le_refl _), Nat.sub_self]; exact he
    · rw [upd_ne e, upd_ne e, List.getD_eq_getElem?_getD, List.getElem?_append_left (by omega), ← List.getD_eq_getElem?_getD]
      exact h6 j (by omega)
theorem T_stepB {f : Nat} {a w : Int32} (h : RSbad T u o f τ) (hL : ∀ τ', RSbad T u o f τ' → L τ') : CallN E shR d mX11_step [.ref 0, .int a, .int w] τ L := by
  obtain ⟨h0, h1, h2, h3, h4, ⟨s, hs, h5⟩⟩ := id h
  refine vc_Md_step ?_
  rw [h5]
  simp (disch := omega) only [nI_clamp, nI_add, pk_mul, pk_sub, ↓pk_rem, pk_div, k_mod, k_m1, nI_ltI, nI_leI, nI_eq, k_n0lt, k_nle0, k_0ltn, k_0len, k_n0eq, k_vin, Nat.reduceAdd, Nat.reduceMul, Nat.reduceLT, Nat.reduceLeDiff, Nat.reduceSub, Nat.reduceEqDiff, Nat.zero_add, Nat.add_zero]
  refine ⟨fun _ => hL _ h, fun _ => ⟨by first | exact trivial | exact vp_in_nI (by omega) (by decide), ?_⟩⟩
  rintro _ rfl
  rw [k_put_ne (by decide), h5]
  refine ⟨vp_in_nI (by omega) (by decide), ?_⟩
  rintro _ rfl
  rintro _ rfl
  simp only [k_put_ne (by decide : (0 : Nat) ≠ 9), k_put_ne (by decide : (0 : Nat) ≠ 8), h5]
  refine hL _ ⟨⟨fun i a b e => by rw [k_put_ne a, k_put_ne e, k_put_ne b]; exact h0.1 i a b e, h0.2.1, h0.2.2⟩, h1, h2, h3, h4, ?_⟩
  rw [k_put_at, upd_at, nI_add]
  exact ⟨s + 1, by omega, rfl⟩
theorem RSok.mv {τ' : Sg} (h : RSok T u o pl c τ) (e : τ' = k_put τ 0 (upd (τ 0) 13 (τ 0 13 + nI 1))) : RSok T u o (pl + 1) c τ' := by
  subst e
  obtain ⟨h0, h1, h2, h3, h4, h5, h6⟩ := h
  refine ⟨h0.p0 (by decide) (by decide), h1, h2, ?_, h4, h5, h6⟩
  rw [k_put_at, upd_at, h3, nI_add]
theorem RSok.bad (h : RSok T u o pl c τ) (hc : c.length ≤ 60) : RSbad T u o pl (k_put τ 0 (upd (τ 0) 15 (nI 1))) := by
  obtain ⟨h0, h1, h2, h3, h4, h5, h6⟩ := h
  refine ⟨h0.p0 (by decide) (by decide), h1, h2, h3, ?_, ⟨c.length, by omega, h5⟩⟩
  rw [k_put_at, upd_at]; decide
theorem RSok.good (h : RSok T u o pl c τ) : RSok T u o pl c (k_put τ 0 (upd (τ 0) 15 (nI 0))) := by
  obtain ⟨h0, h1, h2, h3, h4, h5, h6⟩ := h
  exact ⟨h0.p0 (by decide) (by decide), h1, h2, h3, rfl, h5, h6⟩
/-- a level: an operand, then signs with operands -/
theorem T_lvR {D : Nat} {M M' : KM} {W : (Sg → Prop) → Sg → Prop} {p : Nat → Res} {lev : Nat} (hn : n ≤ 60) (hp : PM n p) (hnext : RPat E D M n T u o p) (hent : ∀ τ L, CallN E shR D M [.ref 0] τ (fun σ1 => W L σ1) → CallN E shR (D + 1) M' [.ref 0] τ L) (hWb : ∀ τ' L, ¬ τ' 0 15 = 0 → L τ' → W L τ')
    (hW : ∀ τ' pl c L, RSok T u o pl c τ' → pl ≤ n → (¬ sgF lev (hrF t n pl) → L τ') → (∀ ch, ch ∈ sgL lev → hrF t n pl = nI ch → ∀ σ3, σ3 = k_put τ' 0 (upd (τ' 0) 13 ((τ' 0 13) + (nI 1))) → CallN E shR D M [.ref 0] σ3 (fun σ5 => CallN E shR D mX11_step [.ref 0, .int (nI ch), .int (nI 0)] σ5 (fun σ6 => W L σ6))) → W L τ') :
    RPat E (D + 1) M' n T u o (fun pl => if (p pl).1 = true then lpF t n p lev 60 (p pl).2.1 (p pl).2.2 else p pl) := by
  intro τ pl c L hS hpl hc hP
  have loop : ∀ m pl cc τ', n ≤ pl + m → RSok T u o pl (c ++ cc) τ' → pl ≤ n → (c ++ cc).length ≤ pl → RPost T u o c (lpF t n p lev m pl cc) L → W L τ' := by
    intro m
    induction m with
    | zero =>
      intro pl cc τ' hm hS hpl hc hP
      have no : ¬ sgF lev (hrF t n pl) := fun s => absurd (sg_lt s) (by omega)
      refine hW τ' pl (c ++ cc) L hS hpl (fun _ => hP.1 rfl _ hS) (fun ch hch e => absurd ⟨ch, hch, e⟩ no)
    | succ m ihm =>
      intro pl cc τ' hm hS hpl hc hP
      simp only [lpF] at hP
      refine hW τ' pl (c ++ cc) L hS hpl (fun s => ?_) (fun ch hch e => ?_)
      · rw [if_neg s] at hP
        exact hP.1 rfl _ hS
      · have s : sgF lev (hrF t n pl) := ⟨ch, hch, e⟩
        rw [if_pos s] at hP
        have hl := sg_lt s
        have ecl : cl (hrF t n pl) = ch := by
          rw [e]
          have h2 : ch < 200 := sg_200 ch hch
          exact nI_clamp (by omega)
        rw [ecl] at hP
        intro σ3 e3
        have hS3 := hS.mv e3
        have pp := hp (pl + 1) hl
        generalize hs : p (pl + 1) = s at hP pp
        refine hnext σ3 (pl + 1) (c ++ cc) _ hS3 hl (by omega) ?_
        rw [hs]
        refine ⟨fun g σ5 h5 => ?_, fun g σ5 h5 => ?_⟩
        · rw [if_pos g] at hP
          obtain ⟨g1, g2, g3⟩ := pp.1 g
          have hlen : (c ++ cc ++ s.2.2).length + pl + 1 ≤ s.2.1 + pl := by
            rw [List.length_append]
            omega
          refine T_step (x := 20000 + ch) (Or.inr (Or.inr (Or.inr ⟨ch, sg_ops ch hch, rfl, rfl⟩))) h5 (by omega) (fun σ6 h6 => ?_)
          have ea : c ++ cc ++ s.2.2 ++ [20000 + ch] = c ++ (cc ++ (s.2.2 ++ [20000 + ch])) := by simp only [List.append_assoc]
          rw [ea] at h6
          refine ihm _ _ _ (by omega) h6 g2 ?_ hP
          rw [← ea, List.length_append]
          show _ + 1 ≤ _
          omega
        · rw [if_neg g] at hP
          exact T_stepB h5 (fun σ6 h6 => hWb _ _ h6.2.2.2.2.1 (hP.2 g _ h6))
  have pp := hp pl hpl
  refine hent τ L ?_
  refine hnext τ pl c _ hS hpl hc ?_
  dsimp only at hP
  generalize p pl = s at hP pp
  refine ⟨fun g σ1 h1 => ?_, fun g σ1 h1 => ?_⟩
  · rw [if_pos g] at hP
    obtain ⟨g1, g2, g3⟩ := pp.1 g
    exact loop 60 _ _ _ (by omega) h1 g2 (by rw [List.length_append]; omega) hP
  · rw [if_neg g] at hP
    exact hWb _ _ h1.2.2.2.2.1 (hP.2 g _ h1)
end P54
