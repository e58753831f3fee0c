/-! promises 14, 15: the reference's reading as a whole; what is read is well formed -/
theorem dg_nm {u : Nat} {b : Int32} (hu : u < 2) (h : dgF b = true) : ¬ nmF u b < 3 ∧ ¬ b = nI 33 ∧ ¬ b = nI 40 := by
  obtain ⟨j, j1, j2, rfl⟩ := dg_nI h
  have : ∀ j, j < 58 → 48 ≤ j → ∀ u, u < 2 → ¬ nmF u (nI j) < 3 ∧ ¬ nI j = nI 33 ∧ ¬ nI j = nI 40 := by decide
  exact this j (by omega) j1 u hu
section P56
variable {E : KE} {S : Shp} {d u o n pl f : Nat} {c : List Nat} {T τ τ' : Sg} {t : Nat → Int32} {K : Int32 → Sg → Prop} {L : Sg → Prop}
theorem RSok.op (h : RSok T u o pl c τ) (e : τ' = k_put τ 0 (upd (τ 0) 14 (τ 0 14 + nI 1))) : RSok T u (o + 1) pl c τ' := by
  subst e
  obtain ⟨h0, h1, h2, h3, h4, h5, h6⟩ := h
  refine ⟨h0.p0 (by decide) (by decide), h1, ?_, h3, h4, h5, h6⟩
  rw [k_put_at, upd_at, h2, nI_add]
theorem RSok.clo (h : RSok T u (o + 1) pl c τ) (e : τ' = k_put τ 0 (upd (τ 0) 14 (τ 0 14 - nI 1))) : RSok T u o pl c τ' := by
  subst e
  obtain ⟨h0, h1, h2, h3, h4, h5, h6⟩ := h
  refine ⟨h0.p0 (by decide) (by decide), h1, ?_, h3, h4, h5, h6⟩
  rw [k_put_at, upd_at, h2, pk_sub (by omega), Nat.add_sub_cancel]
theorem RSbad.clo (h : RSbad T u (o + 1) f τ) (e : τ' = k_put τ 0 (upd (τ 0) 14 (τ 0 14 - nI 1))) : RSbad T u o f τ' := by
  subst e
  obtain ⟨h0, h1, h2, h3, h4, h5⟩ := h
  refine ⟨h0.p0 (by decide) (by decide), h1, ?_, h3, h4, h5⟩
  rw [k_put_at, upd_at, h2, pk_sub (by omega), Nat.add_sub_cancel]
theorem RSbad.z (h : RSbad T u o f τ) (e : τ' = k_put τ 0 (upd (τ 0) 15 (nI 1))) : RSbad T u o f τ' := by
  subst e
  obtain ⟨h0, h1, h2, h3, h4, h5⟩ := h
  refine ⟨h0.p0 (by decide) (by decide), h1, h2, h3, ?_, h5⟩
  rw [k_put_at, upd_at]; decide
theorem RSbad.p13 (h : RSbad T u o f τ) (e : τ' = k_put τ 0 (upd (τ 0) 13 (τ 0 13 + nI 0))) : RSbad T u o f τ' := by
  subst e
  obtain ⟨h0, h1, h2, h3, h4, h5⟩ := h
  refine ⟨h0.p0 (by decide) (by decide), h1, h2, ?_, h4, h5⟩
  rw [k_put_at, upd_at, h3, nI_add, Nat.add_zero]
theorem T_one (hu : u < 2) (hT : RTp T n t) (hn : n ≤ 60) : ∀ r, r ≤ 5 → RPat E (d + 2 + 7 * r) mX11_one n T u (5 - r) (qqF t n u r)
  | 0, _ => by
    intro τ pl c L hS hpl hc hP
    have hP : RPost T u 5 c (q0F t n u (fun pl => (false, pl, [])) pl) L := hP
    unfold q0F at hP
    have opb : ∀ x1, (RSbad T u 5 pl (k_put τ 0 (upd (τ 0) 15 (nI 1))) → L (k_put τ 0 (upd (τ 0) 15 (nI 1)))) → CallN E shR (d + 1) mX11_opens [.ref 0, .int x1] τ L := by
      intro x1 hl
      refine vc_Md_opens ⟨fun z => absurd hS.2.2.1 z, fun _ => ?_⟩
      rintro _ rfl
      exact hl (hS.bad (by omega))
    refine vc_Md_one (T_look hT hn hS hpl (T_nameOf hu hS.2.1 (fun m => ?_) (fun m => ?_)))
    · have ndg : ¬ dgF (hrF t n pl) = true := fun g => (dg_nm hu g).1 m
      rw [if_neg ndg, if_pos m] at hP
      have hl := nm_lt hu m
      refine ⟨fun z => ?_, fun _ => ?_⟩
      · rw [k_n0lt (by omega)] at z; exact z.elim
      · intro σ8 e8
        exact T_step (Or.inr (Or.inl ⟨nmF u (hrF t n pl), m, rfl, rfl, rfl⟩)) (hS.mv e8) (by omega) (fun τ' h' => hP.1 rfl _ h')
    · refine ⟨fun _ => ⟨fun e => ?_, fun n1 => ⟨fun n2 => ?_, fun e => ?_⟩⟩, fun z => absurd (by decide) z⟩
      · have ndg : ¬ dgF (hrF t n pl) = true := fun g => (dg_nm hu g).2.1 e
        rw [if_neg ndg, if_neg m] at hP
        exact opb _ (fun hb => hP.2 Bool.false_ne_true _ hb)
      · refine T_Rnumber hT hn hS hpl hc (fun g => ?_) (fun g => ?_)
        · rw [if_pos g] at hP
          exact hP.1 rfl
        · rw [if_neg g, if_neg m] at hP
          exact hP.2 Bool.false_ne_true
      · have ndg : ¬ dgF (hrF t n pl) = true := fun g => (dg_nm hu g).2.2 e
        rw [if_neg ndg, if_neg m] at hP
        exact opb _ (fun hb => hP.2 Bool.false_ne_true _ hb)
  | r + 1, hr => by
    have ih := T_one hu hT hn r (by omega)
    have pm := qq_le (t := t) (n := n) hu r
    have an := T_any hT hn pm ih
    have pl5 := lvl_le (t := t) pm 5
    intro τ pl c L hS hpl hc hP
    have eo : 5 - r = 5 - (r + 1) + 1 := by omega
    rw [eo] at ih an
    generalize ho : 5 - (r + 1) = o at *
    have ho5 : o < 5 := by omega
    have hP : RPost T u o c (q0F t n u (fun pl =>
      if hrF t n pl = nI 33 then ((qqF t n u r (pl + 1)).1, (qqF t n u r (pl + 1)).2.1, (qqF t n u r (pl + 1)).2.2 ++ [20033])
      else if hrF t n pl = nI 40 then (if (lvlF t n (qqF t n u r) 5 (pl + 1)).1 = true then (if hrF t n (lvlF t n (qqF t n u r) 5 (pl + 1)).2.1 = nI 41 then (true, (lvlF t n (qqF t n u r) 5 (pl + 1)).2.1 + 1, (lvlF t n (qqF t n u r) 5 (pl + 1)).2.2) else (false, (lvlF t n (qqF t n u r) 5 (pl + 1)).2.1, [])) else lvlF t n (qqF t n u r) 5 (pl + 1))
      else (false, pl, [])) pl) L := hP
    unfold q0F at hP
    dsimp only at hP
    have n5 : ¬ τ 0 14 = nI 5 := by rw [hS.2.2.1, nI_eq (by omega) (by omega)]; omega
    refine CallN.deep (d := d + 2 + 7 * r + 7) (vc_Md_one (T_look hT hn hS hpl (T_nameOf hu hS.2.1 (fun m => ?_) (fun m => ?_)))) (by omega)
    · have ndg : ¬ dgF (hrF t n pl) = true := fun g => (dg_nm hu g).1 m
      rw [if_neg ndg, if_pos m] at hP
      have hl := nm_lt hu m
      refine ⟨fun z => ?_, fun _ => ?_⟩
      · rw [k_n0lt (by omega)] at z; exact z.elim
      · intro σ8 e8
        exact T_step (Or.inr (Or.inl ⟨nmF u (hrF t n pl), m, rfl, rfl, rfl⟩)) (hS.mv e8) (by omega) (fun τ' h' => hP.1 rfl _ h')
    · refine ⟨fun _ => ⟨fun e => ?_, fun n1 => ⟨fun n2 => ?_, fun e => ?_⟩⟩, fun z => absurd (by decide) z⟩
      · have ndg : ¬ dgF (hrF t n pl) = true := fun g => (dg_nm hu g).2.1 e
        rw [if_neg ndg, if_neg m, if_pos e] at hP
        have hl : pl < n := hr_lt (by rw [e]; decide)
        rw [e]
        refine vc_Md_opens ⟨fun _ => ?_, fun z => absurd z n5⟩
        intro σ1 e1 σ3 e3
        have hS3 := (hS.op e1).mv e3
        have pp := pm (pl + 1) hl
        refine ⟨fun z => absurd rfl z, fun _ => CallN.deep (ih σ3 (pl + 1) c _ hS3 hl (by omega) ?_) (by omega)⟩
        generalize qqF t n u r (pl + 1) = s at hP pp
        refine ⟨fun g σ5 h5 => ?_, fun g σ5 h5 => ?_⟩
        · obtain ⟨g1, g2, g3⟩ := pp.1 g
          refine T_step (x := 20033) (Or.inr (Or.inr (Or.inl ⟨rfl, rfl⟩))) h5 (by rw [List.length_append]; omega) (fun σ6 h6 => ?_)
          intro σ7 e7
          rw [List.append_assoc] at h6
          exact hP.1 g _ (h6.clo e7)
        · refine T_stepB h5 (fun σ6 h6 => ?_)
          intro σ7 e7
          exact hP.2 g _ (h6.clo e7)
      · refine T_Rnumber hT hn hS hpl hc (fun g => ?_) (fun g => ?_)
        · rw [if_pos g] at hP
          exact hP.1 rfl
        · rw [if_neg g, if_neg m, if_neg n1, if_neg n2] at hP
          exact hP.2 Bool.false_ne_true
      · have ndg : ¬ dgF (hrF t n pl) = true := fun g => (dg_nm hu g).2.2 e
        rw [if_neg ndg, if_neg m, if_neg n1, if_pos e] at hP
        have hl : pl < n := hr_lt (by rw [e]; decide)
        rw [e]
        refine vc_Md_opens ⟨fun _ => ?_, fun z => absurd z n5⟩
        intro σ1 e1 σ3 e3
        have hS3 := (hS.op e1).mv e3
        have pp := pl5 (pl + 1) hl
        refine ⟨fun _ => CallN.deep (an σ3 (pl + 1) c _ hS3 hl (by omega) ?_) (by omega), fun z => absurd z (by decide)⟩
        generalize lvlF t n (qqF t n u r) 5 (pl + 1) = s at hP pp
        have badend : ∀ σa, RSbad T u (o + 1) s.2.1 σa → (∀ τ', RSbad T u o s.2.1 τ' → L τ') → ((σa 0 15) = 0 → ∀ σ8, σ8 = k_put σa 0 (upd (σa 0) 13 ((σa 0 13) + (nI 1))) → ∀ σ10, σ10 = k_put σ8 0 (upd (σ8 0) 14 ((σ8 0 14) - (nI 1))) → L σ10) ∧ (¬ (σa 0 15) = 0 → ∀ σ12, σ12 = k_put σa 0 (upd (σa 0) 13 ((σa 0 13) + (nI 0))) → ∀ σ14, σ14 = k_put σ12 0 (upd (σ12 0) 14 ((σ12 0 14) - (nI 1))) → L σ14) := by
          intro σa ha hl
          refine ⟨fun z => absurd z ha.2.2.2.2.1, fun _ => ?_⟩
          intro σ12 e12 σ14 e14
          exact hl _ ((ha.p13 e12).clo e14)
        refine ⟨fun g σ5 h5 => ?_, fun g σ5 h5 => ?_⟩
        · rw [if_pos g] at hP
          obtain ⟨g1, g2, g3⟩ := pp.1 g
          refine ⟨fun z => absurd h5.2.2.2.2.1 z, fun _ => T_look hT hn h5 g2 ⟨fun y => ?_, fun y => ?_⟩⟩
          · rw [if_pos y] at hP
            rintro _ rfl
            have h6 := h5.good
            refine ⟨fun _ => ?_, fun z => absurd rfl z⟩
            intro σ20 e20 σ22 e22
            exact hP.1 rfl _ ((h6.mv e20).clo e22)
          · rw [if_neg y] at hP
            rintro _ rfl
            exact badend _ (h5.bad (by rw [List.length_append]; omega)) (hP.2 Bool.false_ne_true)
        · rw [if_neg g] at hP
          refine ⟨fun _ => ?_, fun z => absurd z h5.2.2.2.2.1⟩
          intro σ6 e6
          exact badend _ (h5.z e6) (hP.2 g)
end P56
/-- what is read leaves one number on the pile, and never takes from nothing -/
def stk : Nat → List Nat → Option Nat
  | d, [] => some d
  | d, x :: l => if x < 20000 then stk (d + 1) l else if x = 20033 then (if 1 ≤ d then stk d l else none) else (if 2 ≤ d ∧ x < 30000 then stk (d - 1) l else none)
theorem stk_app : ∀ (l k : List Nat) (d : Nat), stk d (l ++ k) = (stk d l).bind (fun e => stk e k)
  | [], k, d => rfl
  | x :: l, k, d => by
    simp only [List.cons_append, stk]
    split
    · exact stk_app l k _
    · split
      · split
        · exact stk_app l k _
        · rfl
      · split
        · exact stk_app l k _
        · rfl
def GD (l : List Nat) : Prop := ∀ d, stk d l = some (d + 1)
theorem GD.sign {a b : List Nat} {x : Nat} (ha : GD a) (hb : GD b) (h1 : ¬ x < 20000) (h2 : x ≠ 20033) (h3 : x < 30000) : GD (a ++ (b ++ [x])) := by
  intro d
  rw [stk_app, ha d]
  show stk (d + 1) (b ++ [x]) = _
  rw [stk_app, hb (d + 1)]
  show stk (d + 1 + 1) [x] = _
  simp only [stk]
  rw [if_neg h1, if_neg h2, if_pos ⟨by omega, h3⟩]
  rfl
theorem GD.not {a : List Nat} (ha : GD a) : GD (a ++ [20033]) := by
  intro d
  rw [stk_app, ha d]
  show stk (d + 1) [20033] = _
  simp only [stk]
  rw [if_neg (by decide), if_pos trivial, if_pos (by omega)]
theorem GD.num {x : Nat} (h : x < 20000) : GD [x] := by
  intro d
  simp only [stk]
  rw [if_pos h]
def PG (pa : Nat → Res) : Prop := ∀ pl, (pa pl).1 = true → GD (pa pl).2.2
theorem lp_gd {t : Nat → Int32} {n lev : Nat} {p : Nat → Res} (hp : PG p) : ∀ m pl c, GD c → (lpF t n p lev m pl c).1 = true → GD (lpF t n p lev m pl c).2.2
  | 0, pl, c, h, _ => h
  | m + 1, pl, c, h, g => by
    simp only [lpF] at g ⊢
    by_cases s : sgF lev (hrF t n pl)
    · rw [if_pos s] at g ⊢
      by_cases g2 : (p (pl + 1)).1 = true
      · rw [if_pos g2] at g ⊢
        have hb := hp (pl + 1) g2
        obtain ⟨ch, h1, h2, h3⟩ := sg_c s
        have n33 : ch ≠ 33 := by
          obtain ⟨c2, hc2, e2⟩ := s
          have l2 := sg_200 c2 hc2
          have : c2 = ch := by
            rw [e2] at h2
            exact (nI_eq (by omega) (by omega)).mp h2
          subst this
          have := sg_ops c2 hc2
          intro e
          subst e
          revert this
          decide
        refine lp_gd hp m _ _ (GD.sign h hb ?_ ?_ ?_) g
        · omega
        · omega
        · omega
      · rw [if_neg g2] at g
        exact absurd g g2
    · rw [if_neg s]
      exact h
theorem lvl_gd {t : Nat → Int32} {n : Nat} {q : Nat → Res} (hq : PG q) : ∀ k, PG (lvlF t n q k)
  | 0 => hq
  | k + 1 => by
    intro pl g
    have ih := lvl_gd (t := t) (n := n) hq k
    simp only [lvlF] at g ⊢
    by_cases g2 : (lvlF t n q k pl).1 = true
    · rw [if_pos g2] at g ⊢
      exact lp_gd ih _ _ _ (ih pl g2) g
    · rw [if_neg g2] at g
      exact absurd g g2
theorem q0_gd {t : Nat → Int32} {n u : Nat} {more : Nat → Res} (hm : PG more) : PG (q0F t n u more) := by
  intro pl g
  unfold q0F at g ⊢
  by_cases c : dgF (hrF t n pl) = true
  · rw [if_pos c]
    have := nb_v (t := t) (n := n) 4 0 pl 1 (by decide)
    exact GD.num (by show (nbF t n 4 0 pl).1 < 20000; omega)
  · rw [if_neg c] at g ⊢
    by_cases c2 : nmF u (hrF t n pl) < 3
    · rw [if_pos c2]
      exact GD.num (by omega)
    · rw [if_neg c2] at g ⊢
      exact hm pl g
theorem qq_gd {t : Nat → Int32} {n u : Nat} : ∀ r, PG (qqF t n u r)
  | 0 => q0_gd (fun pl g => absurd g Bool.false_ne_true)
  | r + 1 => by
    have ih := qq_gd (t := t) (n := n) (u := u) r
    refine q0_gd (fun pl g => ?_)
    by_cases c : hrF t n pl = nI 33
    · rw [if_pos c] at g ⊢
      exact GD.not (ih (pl + 1) g)
    · rw [if_neg c] at g ⊢
      by_cases c2 : hrF t n pl = nI 40
      · rw [if_pos c2] at g ⊢
        have l5 := lvl_gd (t := t) (n := n) ih 5 (pl + 1)
        by_cases g2 : (lvlF t n (qqF t n u r) 5 (pl + 1)).1 = true
        · rw [if_pos g2] at g ⊢
          by_cases c3 : hrF t n (lvlF t n (qqF t n u r) 5 (pl + 1)).2.1 = nI 41
          · rw [if_pos c3]
            exact l5 g2
          · rw [if_neg c3] at g
            exact absurd g Bool.false_ne_true
        · rw [if_neg g2] at g
          exact absurd g g2
      · rw [if_neg c2] at g
        exact absurd g Bool.false_ne_true
