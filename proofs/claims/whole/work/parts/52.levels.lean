/-! promises 14, 15: the system's reader, levels -/
def CPat (E : KE) (d : Nat) (M : KM) (args : List Value) (n : Nat) (B : Sg) (u : Nat) (pa : Nat → Res) : Prop := ∀ σ pl c L, CSok B u pl c σ → pl ≤ n → c.length ≤ pl → CPost B u c (pa pl) L → CallN E shC d M args σ L
theorem sg_m1 {lev : Nat} : ¬ sgF lev (-1 : Int32) := fun h => by
  have : sgF lev (hrF (fun _ => 0) 0 0) := h
  exact absurd (sg_lt this) (Nat.lt_irrefl 0)
theorem sg_c {lev : Nat} {b : Int32} (h : sgF lev b) : ∃ ch, ch < 200 ∧ b = nI ch ∧ cl b = ch := by
  obtain ⟨c, hc, e⟩ := h
  have l : c < 200 := by
    match lev, hc with
    | 0, hc => simp [sgL] at hc; omega
    | 1, hc => simp [sgL] at hc; omega
    | 2, hc => simp [sgL] at hc; omega
    | 3, hc => simp [sgL] at hc; omega
    | _ + 4, hc => simp [sgL] at hc; omega
  exact ⟨c, l, e, by rw [e]; exact nI_clamp (by omega)⟩
section P52
variable {E : KE} {S : Shp} {d u n pl : Nat} {c : List Nat} {B σ : Sg} {K : Int32 → Sg → Prop} {L : Sg → Prop}
theorem T_levels {o D : Nat} {q : Nat → Res} (hB : B 50 1 = nI n) (hn : n ≤ 60) (hq : PM n q) (hQ : CPat E D mX3_readQ [.ref 47, .int (nI o)] n B u q) : ∀ k, k ≤ 5 → CPat E (D + k + 1) mX3_readLevel [.ref 47, .int (nI (5 - k)), .int (nI o)] n B u (lvlF (B 51) n q k)
  | 0, _ => by
    intro σ pl c L hS hpl hc hP
    exact vc_Reader_readLevel ⟨fun z => absurd z (by decide), fun _ => hQ σ pl c L hS hpl hc hP⟩
  | k + 1, hk => by
    have ih := T_levels hB hn hq hQ k (by omega)
    have pm := lvl_le (t := B 51) hq k
    intro σ pl c L hS hpl hc hP
    have e5 : 5 - (k + 1) + 1 = 5 - k := by omega
    have e4 : 5 - (k + 1) = 4 - k := by omega
    rw [e4]
    have badloop : ∀ f, f ≤ 60 → ∀ most i σ', most < 100 → i < 100 → CSbad B f σ' → L σ' → WP E shC mX3_readLevel (D + (k + 1) + 1) 34 [some (.ref 47), some (.int (nI (4 - k))), some (.int (nI o)), some (.int (nI most)), some (.int (nI i)), none] [] σ' (k_qn L) := by
      intro f hf most i σ' h1 h2 hb hl
      apply vb_Reader_readLevel_34
      exact ⟨fun _ => hl, fun _ => T_hereB hf hb (T_isSignOf (by omega) (k_ifF sg_m1 hl))⟩
    have loop : ∀ most, most ≤ 60 → ∀ m i pl cc σ', m + i = most → CSok B u pl (c ++ cc) σ' → pl ≤ n → (c ++ cc).length ≤ pl → CPost B u c (lpF (B 51) n (lvlF (B 51) n q k) (4 - k) m pl cc) L → WP E shC mX3_readLevel (D + (k + 1) + 1) 34 [some (.ref 47), some (.int (nI (4 - k))), some (.int (nI o)), some (.int (nI most)), some (.int (nI i)), none] [] σ' (k_qn L) := by
      intro most hmost m
      induction m with
      | zero =>
        intro i pl cc σ' hi hS hpl hc hP
        have e : i = most := by omega
        subst e
        apply vb_Reader_readLevel_34
        exact ⟨fun _ => hP.1 rfl _ hS, fun z => absurd (Int32.le_refl _) z⟩
      | succ m ihm =>
        intro i pl cc σ' hi hS hpl hc hP
        simp only [lpF] at hP
        apply vb_Reader_readLevel_34
        rw [nI_leI (by omega) (by omega)]
        refine ⟨fun z => absurd z (by omega), fun _ => T_here hB hn hS hpl (T_isSignOf (by omega) (k_if (fun s => ?_) (fun s => T_here hB hn hS hpl ?_)))⟩
        · rw [if_neg s] at hP
          exact hP.1 rfl _ hS
        · rw [if_pos s] at hP
          have hl := sg_lt s
          obtain ⟨ch, hch, ech, ecl⟩ := sg_c s
          rw [ecl] at hP
          rw [ech]
          intro σ7 e7
          have hS7 := hS.mv e7
          have pp := pm (pl + 1) hl
          rw [nI_add, nI_add, nI_add, show 4 - k + 1 = 5 - k by omega]
          generalize hs : lvlF (B 51) n q k (pl + 1) = s at hP pp
          refine ih σ7 (pl + 1) (c ++ cc) _ hS7 hl (by omega) ?_
          rw [hs]
          refine ⟨fun g σ9 h9 => ?_, fun g σ9 h9 => ?_⟩
          · rw [if_pos g] at hP
            obtain ⟨g1, g2, g3⟩ := pp.1 g
            have hlen : (c ++ cc ++ s.2.2).length + pl + 1 ≤ s.2.1 + pl := by
              rw [List.length_append]
              omega
            refine T_add48 h9 (by omega) (fun σ10 h10 => ?_)
            have ea : c ++ cc ++ s.2.2 ++ [20000 + ch] = c ++ (cc ++ (s.2.2 ++ [20000 + ch])) := by simp only [List.append_assoc]
            rw [ea] at h10
            refine ihm (i + 1) _ _ _ (by omega) h10 g2 ?_ hP
            rw [← ea, List.length_append]
            show _ + 1 ≤ _
            omega
          · rw [if_neg g] at hP
            refine T_add48B h9 (fun σ10 h10 => badloop _ (Nat.le_trans (pp.2 g) hn) _ _ _ (by omega) (by omega) h10 (hP.2 g _ h10))
    simp only [lvlF] at hP
    have pp := pm pl hpl
    refine vc_Reader_readLevel ⟨fun _ => ?_, fun z => absurd (by rw [nI_ltI (by omega) (by omega)]; omega) z⟩
    rw [nI_add, show 4 - k + 1 = 5 - k by omega]
    generalize hs : lvlF (B 51) n q k pl = s at hP pp
    refine ih σ pl c _ hS hpl hc ?_
    rw [hs]
    refine ⟨fun g σ1 h1 => ?_, fun g σ1 h1 => ?_⟩
    · rw [if_pos g] at hP
      obtain ⟨g1, g2, g3⟩ := pp.1 g
      have hlen : (c ++ s.2.2).length ≤ s.2.1 := by rw [List.length_append]; omega
      refine ⟨fun z => ?_, fun z => ?_⟩
      · have k2 : k ≠ 2 := by intro e; subst e; exact z rfl
        rw [if_neg k2] at hP
        exact loop 60 (by omega) 60 0 _ _ _ rfl h1 g2 hlen hP
      · have k2 : k = 2 := by
          have := (nI_eq (by omega) (by omega)).mp z
          omega
        rw [if_pos k2] at hP
        exact loop 1 (by omega) 1 0 _ _ _ rfl h1 g2 hlen hP
    · rw [if_neg g] at hP
      have hl := hP.2 g _ h1
      exact ⟨fun _ => badloop _ (Nat.le_trans (pp.2 g) hn) 60 0 _ (by omega) (by omega) h1 hl, fun _ => badloop _ (Nat.le_trans (pp.2 g) hn) 1 0 _ (by omega) (by omega) h1 hl⟩
theorem T_q0 {more : Nat → Res} {x1 : Int32} (hu : u < 2) (hB : B 50 1 = nI n) (hn : n ≤ 60) (hS : CSok B u pl c σ) (hpl : pl ≤ n) (hc : c.length ≤ pl) (hP : CPost B u c (q0F (B 51) n u more pl) L)
    (hmore : CPost B u c (more pl) L → CallI E shC (d + 1) mX3_here [.ref 47] σ (fun y8 σ7 => (¬ y8 = (nI 33) → CallI E shC (d + 1) mX3_here [.ref 47] σ7 (fun y10 σ9 => (¬ y10 = (nI 40) → CallN E shC (d + 1) mX3_stopHere [.ref 47] σ9 (fun σ11 => L σ11)) ∧ (y10 = (nI 40) → ((nI 5) ≤ x1 → CallN E shC (d + 1) mX3_stopHere [.ref 47] σ9 (fun σ12 => L σ12)) ∧ (¬ (nI 5) ≤ x1 → ∀ σ13, σ13 = k_put σ9 47 (upd (σ9 47) 3 ((σ9 47 3) + (nI 1))) → CallN E shC (d + 1) mX3_readLevel [.ref 47, .int (nI 0), .int (x1 + (nI 1))] σ13 (fun σ15 => CallN E shC (d + 1) mX3_readClosing [.ref 47] σ15 (fun σ16 => L σ16)))))) ∧ (y8 = (nI 33) → ((nI 5) ≤ x1 → CallI E shC (d + 1) mX3_here [.ref 47] σ7 (fun y18 σ17 => (¬ y18 = (nI 40) → CallN E shC (d + 1) mX3_stopHere [.ref 47] σ17 (fun σ19 => L σ19)) ∧ (y18 = (nI 40) → ((nI 5) ≤ x1 → CallN E shC (d + 1) mX3_stopHere [.ref 47] σ17 (fun σ20 => L σ20)) ∧ (¬ (nI 5) ≤ x1 → ∀ σ21, σ21 = k_put σ17 47 (upd (σ17 47) 3 ((σ17 47 3) + (nI 1))) → CallN E shC (d + 1) mX3_readLevel [.ref 47, .int (nI 0), .int (x1 + (nI 1))] σ21 (fun σ23 => CallN E shC (d + 1) mX3_readClosing [.ref 47] σ23 (fun σ24 => L σ24)))))) ∧ (¬ (nI 5) ≤ x1 → ∀ σ25, σ25 = k_put σ7 47 (upd (σ7 47) 3 ((σ7 47 3) + (nI 1))) → CallN E shC (d + 1) mX3_readQ [.ref 47, .int (x1 + (nI 1))] σ25 (fun σ27 => CallN E shC (d + 1) mX4_add [.ref 48, .int (nI 20033)] σ27 (fun σ28 => L σ28)))))) : CallN E shC (d + 2) mX3_readQ [.ref 47, .int x1] σ L := by
  unfold q0F at hP
  have rest : ∀ y2, (nmF u (hrF (B 51) n pl) < 3 → y2 = nI (nmF u (hrF (B 51) n pl))) → (¬ nmF u (hrF (B 51) n pl) < 3 → y2 = (-1 : Int32)) → CallI E shC (d + 1) mX3_here [.ref 47] σ (fun y4 σ3 => CallI E shC (d + 1) mX3_isDigit [.int y4] σ3 (fun y6 σ5 => (y6 = 0 → (y2 < 0 → CallI E shC (d + 1) mX3_here [.ref 47] σ5 (fun y8 σ7 => (¬ y8 = (nI 33) → CallI E shC (d + 1) mX3_here [.ref 47] σ7 (fun y10 σ9 => (¬ y10 = (nI 40) → CallN E shC (d + 1) mX3_stopHere [.ref 47] σ9 (fun σ11 => L σ11)) ∧ (y10 = (nI 40) → ((nI 5) ≤ x1 → CallN E shC (d + 1) mX3_stopHere [.ref 47] σ9 (fun σ12 => L σ12)) ∧ (¬ (nI 5) ≤ x1 → ∀ σ13, σ13 = k_put σ9 47 (upd (σ9 47) 3 ((σ9 47 3) + (nI 1))) → CallN E shC (d + 1) mX3_readLevel [.ref 47, .int (nI 0), .int (x1 + (nI 1))] σ13 (fun σ15 => CallN E shC (d + 1) mX3_readClosing [.ref 47] σ15 (fun σ16 => L σ16)))))) ∧ (y8 = (nI 33) → ((nI 5) ≤ x1 → CallI E shC (d + 1) mX3_here [.ref 47] σ7 (fun y18 σ17 => (¬ y18 = (nI 40) → CallN E shC (d + 1) mX3_stopHere [.ref 47] σ17 (fun σ19 => L σ19)) ∧ (y18 = (nI 40) → ((nI 5) ≤ x1 → CallN E shC (d + 1) mX3_stopHere [.ref 47] σ17 (fun σ20 => L σ20)) ∧ (¬ (nI 5) ≤ x1 → ∀ σ21, σ21 = k_put σ17 47 (upd (σ17 47) 3 ((σ17 47 3) + (nI 1))) → CallN E shC (d + 1) mX3_readLevel [.ref 47, .int (nI 0), .int (x1 + (nI 1))] σ21 (fun σ23 => CallN E shC (d + 1) mX3_readClosing [.ref 47] σ23 (fun σ24 => L σ24)))))) ∧ (¬ (nI 5) ≤ x1 → ∀ σ25, σ25 = k_put σ7 47 (upd (σ7 47) 3 ((σ7 47 3) + (nI 1))) → CallN E shC (d + 1) mX3_readQ [.ref 47, .int (x1 + (nI 1))] σ25 (fun σ27 => CallN E shC (d + 1) mX4_add [.ref 48, .int (nI 20033)] σ27 (fun σ28 => L σ28)))))) ∧ (¬ y2 < 0 → ∀ σ29, σ29 = k_put σ5 47 (upd (σ5 47) 3 ((σ5 47 3) + (nI 1))) → CallN E shC (d + 1) mX4_add [.ref 48, .int ((nI 10000) + y2)] σ29 (fun σ31 => L σ31))) ∧ (¬ y6 = 0 → CallN E shC (d + 1) mX3_readNumber [.ref 47] σ5 (fun σ32 => L σ32)))) := by
    intro y2 a b
    refine T_here hB hn hS hpl (T_isDigit (k_if (fun g => ?_) (fun g => ?_)))
    · rw [if_neg g] at hP
      by_cases m : nmF u (hrF (B 51) n pl) < 3
      · rw [if_pos m] at hP
        have hl := nm_lt hu m
        rw [a m]
        refine ⟨fun z => ?_, fun _ => ?_⟩
        · rw [k_n0lt (by omega)] at z; exact z.elim
        · intro σ29 e29
          rw [nI_add]
          exact T_add48 (hS.mv e29) (by omega) (fun σ' h' => hP.1 rfl _ h')
      · rw [if_neg m] at hP
        rw [b m]
        exact ⟨fun _ => hmore hP, fun z => absurd (by decide) z⟩
    · rw [if_pos g] at hP
      have hl := dg_lt g
      exact T_number hB hn hS hpl (by omega) (fun σ' h' => hP.1 rfl _ h')
  exact vc_Reader_readQ (T_nameHere hu hB hn hS hpl (fun m => rest _ (fun _ => rfl) (fun z => absurd m z)) (fun m => rest _ (fun z => absurd z m) (fun _ => rfl)))
end P52
