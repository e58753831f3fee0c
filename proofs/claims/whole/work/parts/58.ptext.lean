/-! promises 14, 15: text, both sides -/
section P58
variable {E E' : KE} {S : Shp} {d d' : Nat} {x1 x2 x3 : Int32} {σ τ : Sg} {Z : Int32 → Int32 → Sg → Sg → Prop} {K : Int32 → Sg → Prop} {L : Sg → Prop}
theorem P_text (hR : RR σ τ) (h : ∀ v σ' τ', RR σ' τ' → Z v v σ' τ') : CallI E shC (d + 45) mX10_text [.ref 0, .int x1] σ (fun v σ' => CallI E' shR (d' + 43) mX11_text [.ref 0, .int x1] τ (fun w τ' => Z v w σ' τ')) := by
  have hW := hR.rw
  refine vc_SD_text (T_isUse (k_ifn (fun q => ?_) (fun q => T_err (by decide) ?_)))
  rotate_left
  · exact vc_Md_text (T_in (k_ifnF (fun z => q (k_w01.mp z)) (T_Merr1 (h _ _ _ (hR.err (by decide))))))
  obtain ⟨u, hu, rfl⟩ : ∃ u, u < 2 ∧ x1 = nI u := by
    rcases q with rfl | rfl
    · exact ⟨0, by decide, rfl⟩
    · exact ⟨1, by decide, rfl⟩
  obtain ⟨⟨⟨n, hn, h20⟩, b2, b3⟩, -⟩ := hW.b
  have ecl : cl (σ 20 1) = n := by rw [h20]; exact nI_clamp (by omega)
  rw [ecl] at b3
  have hz := hW.zero20
  refine T_faultOf hu (by omega) h20 (fun B hB hB50 hB51 => ?_)
  have hT : RTp τ n (B 51) := ⟨by rw [b2, h20], fun j hj => by rw [b3 j hj, hB51 j hj]⟩
  have pm := qq_le (t := B 51) (n := n) hu 5
  have pp := lvl_le (t := B 51) pm 5 0 (Nat.zero_le _)
  have gd := lvl_gd (t := B 51) (n := n) (qq_gd (t := B 51) (n := n) (u := u) 5) 5 0
  have tx : ((txF (B 51) n u).1 = true → (txF (B 51) n u).2.2.length ≤ 60 ∧ GD (txF (B 51) n u).2.2) ∧ (txF (B 51) n u).2.1 ≤ 60 := by
    unfold txF
    by_cases g : (lvlF (B 51) n (qqF (B 51) n u 5) 5 0).1 = true
    · rw [if_pos g]
      obtain ⟨g1, g2, g3⟩ := pp.1 g
      split
      · exact ⟨fun z => absurd z Bool.false_ne_true, by show (lvlF (B 51) n (qqF (B 51) n u 5) 5 0).2.1 ≤ 60; omega⟩
      · exact ⟨fun _ => ⟨by omega, gd g⟩, by omega⟩
    · rw [if_neg g]
      exact ⟨fun z => absurd z g, Nat.le_trans (pp.2 g) (by omega)⟩
  -- the two relations, from a class state and a reference state
  have fin : ∀ σp σ' τ', RW σp (τ' 1) → nT σp < 10000 → (∀ i, (24 ≤ i ∧ i ≤ 46 ∨ i = 0 ∨ 57 ≤ i) → σp i = σ i) → eqD σp σ' → (∀ i, i ≠ 0 → i ≠ 1 → i ≠ 8 → i ≠ 9 → τ' i = τ i) → τ' 0 3 = τ 0 3 → τ' 0 22 = τ 0 22 → RR σ' τ' := by
    intro σp σ' τ' w ht e1 e2 e3 e4 e5
    have r1 := hR.now w ht e1
    refine r1.congrW e2 ⟨?_, ?_, ?_, ?_, ?_, ?_, ?_, ?_, ?_⟩
    · rw [k_put_at]
    · rw [k_put_ne (by decide), e3 2 (by decide) (by decide) (by decide) (by decide)]
    · rw [k_put_ne (by decide), e3 4 (by decide) (by decide) (by decide) (by decide)]
    · rw [k_put_ne (by decide), e3 5 (by decide) (by decide) (by decide) (by decide)]
    · rw [k_put_ne (by decide), e3 6 (by decide) (by decide) (by decide) (by decide)]
    · rw [k_put_ne (by decide), e3 7 (by decide) (by decide) (by decide) (by decide)]
    · rw [k_put_ne (by decide), e3 14 (by decide) (by decide) (by decide) (by decide)]
    · rw [k_put_ne (by decide), e4]
    · rw [k_put_ne (by decide), e5]
  have big : ∀ i, k_mC i = true → i ≠ 47 ∧ i ≠ 48 ∧ i ≠ 49 ∧ i ≠ 50 ∧ i ≠ 51 := by
    intro i hi
    refine ⟨?_, ?_, ?_, ?_, ?_⟩ <;> (intro e; subst e; revert hi; decide)
  refine ⟨fun g σ3 h3 => ?_, fun g σ3 h3 => ?_⟩
  · obtain ⟨⟨hlen, hgd⟩, -⟩ := And.intro (tx.1 g) tx.2
    generalize hs : txF (B 51) n u = s at h3 g hlen hgd
    obtain ⟨c1, c2, c3, c4, c5, c6⟩ := h3
    have e3 : ∀ i, i ≠ 47 → i ≠ 48 → i ≠ 49 → i ≠ 50 → i ≠ 51 → σ3 i = σ i := fun i i1 i2 i3 i4 i5 => by rw [c1 i i1 i2 i3, hB i i1 i2 i4 i5]
    rintro _ rfl
    refine ⟨fun _ => ?_, fun z => absurd (by decide) z⟩
    have codes : ∀ (f : Nat → Int32), (∀ j, j < s.2.2.length → f j = σ3 49 j) → wfS f s.2.2.length := fun f hf => hgd.wf (fun j hj => by rw [hf j hj, c6 j hj])
    have ref : ∀ σ', (∀ τ', (∀ i, i ≠ 0 → i ≠ 1 → i ≠ 8 → i ≠ 9 → τ' i = τ i) → τ' 0 3 = τ 0 3 → τ' 0 22 = τ 0 22 → (∀ j, j ≠ 8 → (j < 310 + 121 * u ∨ 310 + 121 * u + 121 ≤ j) → τ' 1 j = τ 1 j) → τ' 1 8 = nI 0 → τ' 1 (310 + 121 * u) = nI s.2.2.length → (∀ j, j < s.2.2.length → encS (τ' 1 (310 + 121 * u + 1 + j)) (τ' 1 (310 + 121 * u + 61 + j)) (nI (s.2.2.getD j 0))) → RR σ' τ') → CallI E' shR (d' + 43) mX11_text [.ref 0, .int (nI u)] τ (fun w τ' => Z (nI 1) w σ' τ') := by
      intro σ' hh
      refine T_Mtext hu (by omega) hT (fun _ τ' a1 a2 a3 a4 a5 a6 a7 => ?_) (fun z => absurd (by rw [hs]; exact g) z)
      rw [hs] at a6 a7
      exact h _ _ _ (hh τ' a1 a2 a3 a4 a5 a6 a7)
    have hc : u = 0 ∨ u = 1 := by omega
    have e48 : (k_put σ3 20 (upd (σ3 20) 1 (nI 0))) 48 = σ3 48 := k_put_ne (by decide)
    have e49 : (k_put σ3 20 (upd (σ3 20) 1 (nI 0))) 49 = σ3 49 := k_put_ne (by decide)
    have e20 : σ3 20 = σ 20 := e3 20 (by decide) (by decide) (by decide) (by decide) (by decide)
    refine T_textOf (by omega) ?_
    rcases hc with rfl | rfl
    · refine ⟨fun _ => ?_, fun z => absurd z (by decide), Or.inl rfl⟩
      refine T_rowc_13_48 (by rw [e48, c5]; exact ⟨_, by omega, rfl⟩) (fun σ9 s1 s2 s3 => ref σ9 (fun τ' a1 a2 a3 a4 a5 a6 a7 => ?_))
      rw [e48, c5] at s2 s3
      rw [show cl (nI s.2.2.length) = s.2.2.length from nI_clamp (by omega), e49] at s3
      refine fin (k_put (k_put (k_put σ 20 (upd (σ 20) 1 (nI 0))) 13 (σ9 13)) 14 (σ9 14)) σ9 τ' ?_ hR.1.2 (fun i hi => ?_) (fun i hi => ?_) a1 a2 a3
      · refine RW.text hz (fun i i1 i2 _ _ => by rw [k_put_ne i2, k_put_ne i1]) (fun j hj => ?_) ⟨⟨?_, ?_, ?_, ?_⟩, ?_⟩
        · by_cases j8 : j = 8
          · rw [j8, upd_at, a5]
          · rw [upd_ne j8]; exact a4 j j8 (by omega)
        · rw [k_put_ne (by decide), k_put_at, s2]; exact ⟨_, by omega, rfl⟩
        · rw [k_put_ne (by decide), k_put_at, s2]; exact a6
        · rw [k_put_ne (by decide), k_put_at, s2, k_put_at]
          intro j hj
          rw [show cl (nI s.2.2.length) = s.2.2.length from nI_clamp (by omega)] at hj
          rw [s3 j hj, c6 j hj]
          exact a7 j hj
        · rw [k_put_at, k_put_ne (by decide : (13 : Nat) ≠ 14), k_put_at, s2, show cl (nI s.2.2.length) = s.2.2.length from nI_clamp (by omega)]
          exact codes _ s3
        · rw [k_put_ne (by decide), k_put_ne (by decide), k_put_ne (by decide), k_put_ne (by decide), k_put_ne (by decide), k_put_ne (by decide)]
          exact hW.x.2.fr (fun j q1 q2 => a4 j (by omega) (by omega))
      · rw [k_put_ne (by omega), k_put_ne (by omega), k_put_ne (by omega)]
      · obtain ⟨k1, k2, k3, k4, k5⟩ := big i hi
        by_cases i14 : i = 14
        · rw [i14, k_put_at]
        · rw [k_put_ne i14]
          by_cases i13 : i = 13
          · rw [i13, k_put_at]
          · rw [k_put_ne i13, s1 i i13 i14]
            by_cases i20 : i = 20
            · rw [i20, k_put_at, k_put_at, e20]
            · rw [k_put_ne i20, k_put_ne i20, e3 i k1 k2 k3 k4 k5]
    · refine ⟨fun z => absurd z (by decide), fun _ => ?_, Or.inr rfl⟩
      refine T_rowc_17_48 (by rw [e48, c5]; exact ⟨_, by omega, rfl⟩) (fun σ9 s1 s2 s3 => ref σ9 (fun τ' a1 a2 a3 a4 a5 a6 a7 => ?_))
      rw [e48, c5] at s2 s3
      rw [show cl (nI s.2.2.length) = s.2.2.length from nI_clamp (by omega), e49] at s3
      refine fin (k_put (k_put (k_put σ 20 (upd (σ 20) 1 (nI 0))) 17 (σ9 17)) 18 (σ9 18)) σ9 τ' ?_ hR.1.2 (fun i hi => ?_) (fun i hi => ?_) a1 a2 a3
      · refine RW.text hz (fun i _ _ i1 i2 => by rw [k_put_ne i2, k_put_ne i1]) (fun j hj => ?_) ⟨?_, ⟨?_, ?_, ?_, ?_⟩⟩
        · by_cases j8 : j = 8
          · rw [j8, upd_at, a5]
          · rw [upd_ne j8]; exact a4 j j8 (by omega)
        · rw [k_put_ne (by decide), k_put_ne (by decide), k_put_ne (by decide), k_put_ne (by decide), k_put_ne (by decide), k_put_ne (by decide)]
          exact hW.x.1.fr (fun j q1 q2 => a4 j (by omega) (by omega))
        · rw [k_put_ne (by decide), k_put_at, s2]; exact ⟨_, by omega, rfl⟩
        · rw [k_put_ne (by decide), k_put_at, s2]; exact a6
        · rw [k_put_ne (by decide), k_put_at, s2, k_put_at]
          intro j hj
          rw [show cl (nI s.2.2.length) = s.2.2.length from nI_clamp (by omega)] at hj
          rw [s3 j hj, c6 j hj]
          exact a7 j hj
        · rw [k_put_at, k_put_ne (by decide : (17 : Nat) ≠ 18), k_put_at, s2, show cl (nI s.2.2.length) = s.2.2.length from nI_clamp (by omega)]
          exact codes _ s3
      · rw [k_put_ne (by omega), k_put_ne (by omega), k_put_ne (by omega)]
      · obtain ⟨k1, k2, k3, k4, k5⟩ := big i hi
        by_cases i14 : i = 18
        · rw [i14, k_put_at]
        · rw [k_put_ne i14]
          by_cases i13 : i = 17
          · rw [i13, k_put_at]
          · rw [k_put_ne i13, s1 i i13 i14]
            by_cases i20 : i = 20
            · rw [i20, k_put_at, k_put_at, e20]
            · rw [k_put_ne i20, k_put_ne i20, e3 i k1 k2 k3 k4 k5]
  · have hf := tx.2
    rintro _ rfl
    obtain ⟨c1, c2, c3⟩ := h3
    refine ⟨fun z => ?_, fun _ => ?_⟩
    · rw [k_n0lt (by omega)] at z; exact z.elim
    · refine T_Mtext hu (by omega) hT (fun z => absurd z g) (fun _ τ' a1 a2 a3 a4 a5 => h _ _ _ ?_)
      refine fin (k_put σ 20 (upd (σ 20) 1 (nI 0))) _ τ' ?_ hR.1.2 (fun i hi => k_put_ne (by omega)) (fun i hi => ?_) a1 a2 a3
      · refine RW.row hz (fun j hj => ?_)
        by_cases j8 : j = 8
        · rw [j8, upd_at, a5]
        · rw [upd_ne j8]; exact a4 j j8
      · obtain ⟨k1, k2, k3, k4, k5⟩ := big i hi
        by_cases i20 : i = 20
        · rw [i20, k_put_at, k_put_at, c1 20 (by decide) (by decide) (by decide), hB 20 (by decide) (by decide) (by decide) (by decide)]
        · rw [k_put_ne i20, k_put_ne i20, c1 i k1 k2 k3, hB i k1 k2 k4 k5]
end P58
