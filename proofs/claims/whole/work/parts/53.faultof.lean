/-! promises 14, 15: the system's reader as a whole -/
section P53
variable {E : KE} {S : Shp} {d u n pl : Nat} {c : List Nat} {B σ : Sg} {K : Int32 → Sg → Prop} {L : Sg → Prop}
theorem T_closing (hB : B 50 1 = nI n) (hn : n ≤ 60) (hS : CSok B u pl c σ) (hpl : pl ≤ n) (hc : c.length ≤ 60) (h1 : hrF (B 51) n pl = nI 41 → ∀ σ', CSok B u (pl + 1) c σ' → L σ') (h2 : ¬ hrF (B 51) n pl = nI 41 → ∀ σ', CSbad B pl σ' → L σ') : CallN E shC (d + 1) mX3_readClosing [.ref 47] σ L := by
  refine vc_Reader_readClosing (T_here hB hn hS hpl ⟨fun z => T_stop hS hc (h2 z), fun z => ?_⟩)
  intro σ4 e4
  exact h1 z _ (hS.mv e4)
theorem T_closingB {f : Nat} (hf : f ≤ 60) (hS : CSbad B f σ) (h : L σ) : CallN E shC (d + 1) mX3_readClosing [.ref 47] σ L :=
  vc_Reader_readClosing (T_hereB hf hS ⟨fun _ => T_stopB hf hS h, fun z => absurd z (by decide)⟩)
theorem T_readQ (hu : u < 2) (hB : B 50 1 = nI n) (hn : n ≤ 60) : ∀ r, r ≤ 5 → CPat E (d + 2 + 7 * r) mX3_readQ [.ref 47, .int (nI (5 - r))] n B u (qqF (B 51) n u r)
  | 0, _ => by
    intro σ pl c L hS hpl hc hP
    refine T_q0 (d := d) hu hB hn hS hpl hc hP (fun hm => ?_)
    have bad := hm.2 Bool.false_ne_true
    refine T_here hB hn hS hpl ⟨fun _ => T_here hB hn hS hpl ⟨fun _ => T_stop hS (by omega) bad, fun _ => ⟨fun _ => T_stop hS (by omega) bad, fun z => absurd (by decide) z⟩⟩, fun z => ⟨fun _ => T_here hB hn hS hpl ⟨fun _ => T_stop hS (by omega) bad, fun _ => ⟨fun _ => T_stop hS (by omega) bad, fun z => absurd (by decide) z⟩⟩, fun z => absurd (by decide) z⟩⟩
  | r + 1, hr => by
    have ih := T_readQ hu hB hn r (by omega)
    have pm := qq_le (t := B 51) (n := n) hu r
    have lv := T_levels hB hn pm ih 5 (Nat.le_refl _)
    have pl5 := lvl_le (t := B 51) pm 5
    intro σ pl c L hS hpl hc hP
    refine T_q0 (d := d + 7 + 7 * r) hu hB hn hS hpl hc hP (fun hm => ?_) |>.deep (by omega)
    have no : ¬ nI 5 ≤ nI (5 - (r + 1)) := by rw [nI_leI (by omega) (by omega)]; omega
    have e1 : nI (5 - (r + 1)) + nI 1 = nI (5 - r) := by rw [nI_add]; congr 1; omega
    refine T_here hB hn hS hpl ⟨fun z => T_here hB hn hS hpl ⟨fun z2 => T_stop hS (by omega) ?_, fun z2 => ⟨fun z3 => absurd z3 no, fun _ => ?_⟩⟩, fun z => ⟨fun z3 => absurd z3 no, fun _ => ?_⟩⟩
    · rw [if_neg z, if_neg z2] at hm
      exact hm.2 Bool.false_ne_true
    · rw [if_neg z, if_pos z2] at hm
      intro σ13 e13
      have hl : pl < n := hr_lt (by rw [z2]; decide)
      have hS2 := hS.mv e13
      have pp := pl5 (pl + 1) hl
      rw [e1]
      refine CallN.deep (lv σ13 (pl + 1) c _ hS2 hl (by omega) ?_) (by omega)
      generalize lvlF (B 51) n (qqF (B 51) n u r) 5 (pl + 1) = s at hm pp
      refine ⟨fun g σ15 h15 => ?_, fun g σ15 h15 => ?_⟩
      · rw [if_pos g] at hm
        obtain ⟨g1, g2, g3⟩ := pp.1 g
        have hlen : (c ++ s.2.2).length ≤ 60 := by rw [List.length_append]; omega
        refine T_closing hB hn h15 g2 hlen (fun y σ' h' => ?_) (fun y σ' h' => ?_)
        · rw [if_pos y] at hm
          exact hm.1 rfl _ h'
        · rw [if_neg y] at hm
          exact hm.2 Bool.false_ne_true _ h'
      · rw [if_neg g] at hm
        exact T_closingB (Nat.le_trans (pp.2 g) hn) h15 (hm.2 g _ h15)
    · rw [if_pos z] at hm
      intro σ25 e25
      have hl : pl < n := hr_lt (by rw [z]; decide)
      have hS2 := hS.mv e25
      have pp := pm (pl + 1) hl
      rw [e1]
      refine CallN.deep (ih σ25 (pl + 1) c _ hS2 hl (by omega) ?_) (by omega)
      generalize qqF (B 51) n u r (pl + 1) = s at hm pp
      refine ⟨fun g σ27 h27 => ?_, fun g σ27 h27 => ?_⟩
      · obtain ⟨g1, g2, g3⟩ := pp.1 g
        have hlen : (c ++ s.2.2).length < 60 := by rw [List.length_append]; omega
        refine T_add48 h27 hlen (fun σ' h' => hm.1 g _ ?_)
        rw [List.append_assoc] at h'
        exact h'
      · exact T_add48B h27 (fun σ' h' => hm.2 g _ h')
/-- the whole text: all of it is one, or where it isn't -/
noncomputable def txF (t : Nat → Int32) (n u : Nat) : Res := if (lvlF t n (qqF t n u 5) 5 0).1 = true then (if (lvlF t n (qqF t n u 5) 5 0).2.1 < n then (false, (lvlF t n (qqF t n u 5) 5 0).2.1, []) else lvlF t n (qqF t n u 5) 5 0) else lvlF t n (qqF t n u 5) 5 0
theorem T_faultOf (hu : u < 2) (hn : n ≤ 60) (h20 : σ 20 1 = nI n) (h : ∀ B, (∀ i, i ≠ 47 → i ≠ 48 → i ≠ 50 → i ≠ 51 → B i = σ i) → B 50 1 = nI n → (∀ j, j < n → B 51 j = σ 21 j) → ((txF (B 51) n u).1 = true → ∀ σ', CSok B u (txF (B 51) n u).2.1 (txF (B 51) n u).2.2 σ' → K (-1 : Int32) σ') ∧ (¬ (txF (B 51) n u).1 = true → ∀ σ', CSbad B (txF (B 51) n u).2.1 σ' → K (nI (txF (B 51) n u).2.1) σ')) : CallI E shC (d + 44) mX3_faultOf [.ref 47, .ref 20, .int (nI u)] σ K := by
  have ecl : cl (σ 20 1) = n := by rw [h20]; exact nI_clamp (by omega)
  refine vc_Reader_faultOf (T_rowc_50_20 (by rw [h20]; exact ⟨n, by omega, rfl⟩) (fun σ1 s1 s2 s3 => ?_))
  rw [ecl] at s3
  rw [h20] at s2
  rintro _ rfl
  rintro _ rfl
  rintro _ rfl
  rintro _ rfl
  let B : Sg := k_put (k_put (k_put (k_put σ1 47 (upd (σ1 47) 2 (nI u))) 47 (upd ((k_put σ1 47 (upd (σ1 47) 2 (nI u))) 47) 3 (nI 0))) 47 (upd ((k_put (k_put σ1 47 (upd (σ1 47) 2 (nI u))) 47 (upd ((k_put σ1 47 (upd (σ1 47) 2 (nI u))) 47) 3 (nI 0))) 47) 4 (-1 : Int32))) 48 (upd (σ1 48) 1 (nI 0))
  have hB : ∀ i, i ≠ 47 → i ≠ 48 → B i = σ1 i := fun i a b => by
    show k_put (k_put (k_put (k_put σ1 47 _) 47 _) 47 _) 48 _ i = σ1 i
    rw [k_put_ne b, k_put_ne a, k_put_ne a, k_put_ne a]
  have hB50 : B 50 1 = nI n := by rw [hB 50 (by decide) (by decide), s2]
  have h := h B (fun i a b c e => by rw [hB i a b, s1 i c e]) hB50 (fun j hj => by rw [hB 51 (by decide) (by decide), s3 j hj])
  have hS : CSok B u 0 [] B := ⟨fun _ _ _ _ => rfl, rfl, rfl, rfl, rfl, fun j hj => absurd hj (Nat.not_lt_zero j)⟩
  have pm := qq_le (t := B 51) (n := n) hu 5
  have pp := lvl_le (t := B 51) pm 5 0 (Nat.zero_le _)
  have lv := T_levels (E := E) hB50 hn pm (T_readQ (d := d) hu hB50 hn 5 (Nat.le_refl _)) 5 (Nat.le_refl _)
  refine CallN.deep (lv B 0 [] _ hS (Nat.zero_le _) (Nat.le_refl _) ?_) (by omega)
  unfold txF at h
  generalize lvlF (B 51) n (qqF (B 51) n u 5) 5 0 = s at h pp
  have fin : ∀ f, f ≤ 60 → (∀ σ', CSbad B f σ' → K (nI f) σ') → ∀ σ10, CSbad B f σ10 → ((σ10 50 1) ≤ (σ10 47 3) → K (σ10 47 4) σ10) ∧ (¬ (σ10 50 1) ≤ (σ10 47 3) → CallN E shC (d + 43) mX3_stopHere [.ref 47] σ10 (fun σ11 => K (σ11 47 4) σ11)) := by
    intro f hf hk σ10 hb
    refine ⟨fun _ => by rw [hb.2.1]; exact hk _ hb, fun _ => T_stopB hf hb (by rw [hb.2.1]; exact hk _ hb)⟩
  refine ⟨fun g σ10 h10 => ?_, fun g σ10 h10 => ?_⟩
  · rw [if_pos g] at h
    obtain ⟨g1, g2, g3⟩ := pp.1 g
    rw [List.nil_append] at h10
    have e50 : σ10 50 1 = nI n := by rw [h10.1 50 (by decide) (by decide) (by decide), hB50]
    rw [e50, h10.2.2.1, nI_leI (by omega) (by omega)]
    refine ⟨fun c => ?_, fun c => T_stop h10 (by omega) (fun σ' hb => ?_)⟩
    · rw [if_neg (by omega)] at h
      rw [h10.2.2.2.1]
      exact h.1 g _ h10
    · rw [if_pos (by omega)] at h
      rw [hb.2.1]
      exact h.2 Bool.false_ne_true _ hb
  · rw [if_neg g] at h
    exact fin _ (Nat.le_trans (pp.2 g) hn) (h.2 g) σ10 h10
end P53
