/-! promise 26: bailiffs, both sides -/
section P66
variable {E E' : KE} {S : Shp} {d d' : Nat} {x1 x2 x3 : Int32} {σ τ : Sg} {Z : Int32 → Int32 → Sg → Sg → Prop} {K : Int32 → Sg → Prop} {L : Sg → Prop}
theorem P_bailiffs (hR : RR σ τ) (h : ∀ v σ' τ', RR σ' τ' → Z v v σ' τ') : CallI E shC (d + 6) mX10_bailiffs [.ref 0, .int x1, .int x2, .int x3] σ (fun v σ' => CallI E' shR (d' + 9) mX11_bailiffs [.ref 0, .int x1, .int x2, .int x3] τ (fun w τ' => Z v w σ' τ')) := by
  have hA := hR.rw.a
  have hQ := hR.rw.q
  have hRA := hR.rw.ra
  have hP := nP_le hA
  have hQ8 := nQ_le hQ
  refine vc_SD_bailiffs (T_knows hA (k_if (fun q => T_err (by decide) ?_) (fun q => T_isWithin (k_if (fun q2 => T_err (by decide) ?_) (fun q2 => T_isWithin (k_ifn (fun q3 => ?_) (fun q3 => T_err (by decide) ?_)))))))
  · exact vc_Md_bailiffs (T_isPerson hA hRA (k_ifF q (T_Merr1 (h _ _ _ (hR.err (by decide))))))
  · exact vc_Md_bailiffs (T_isPerson hA hRA (k_ifT q (T_in (k_ifF q2 (T_Merr1 (h _ _ _ (hR.err (by decide))))))))
  rotate_left
  · exact vc_Md_bailiffs (T_isPerson hA hRA (k_ifT q (T_in (k_ifT q2 (T_in (k_ifnF q3 (T_Merr1 (h _ _ _ (hR.err (by decide))))))))))
  obtain ⟨p, hp, rfl⟩ := id q
  obtain ⟨n, hn1, hn3, rfl⟩ := (k_wi (by decide) (by decide)).mp q2
  have hp6 : p < 6 := by omega
  have e1 : (nI n - nI 1).toInt = n - 1 := by rw [pk_sub_toInt (by omega) (by decide)]; omega
  have e2 : (-2 : Int32).toInt = -2 := by decide
  have e3 : (-1 : Int32).toInt = -1 := by decide
  have hx3 : x3 = (-2 : Int32) ∨ x3 = (-1 : Int32) ∨ ∃ j, j < n ∧ x3 = nI j := by
    have q3 := q3
    rw [e1, e2] at q3
    by_cases c1 : x3.toInt = -2
    · exact Or.inl (k_eqi.mpr (by rw [e2]; exact c1))
    · by_cases c2 : x3.toInt = -1
      · exact Or.inr (Or.inl (k_eqi.mpr (by rw [e3]; exact c2)))
      · obtain ⟨j, j1, j2⟩ := (k_lt_iff (x := x3) (n := n) (by omega)).mpr ⟨by omega, by omega⟩
        exact Or.inr (Or.inr ⟨j, j1, j2⟩)
  have bp : ∀ j, pkF σ p j < 1000 := fun j => (pkF_eq σ p j).2
  have bh : ∀ j, hkF σ p j ≤ 8 := fun j => hkF_le hQ p j
  have hu := unkF_le σ (nQ σ)
  generalize hv : duB σ p 28 = v
  have hvb : ∀ j, j < 28 → (bt v j = true ↔ ¬ σ 7 (p * 28 + j) ≤ 0) := fun j hj => by
    rw [← hv, duB_bt (by omega) 28 (Nat.le_refl _)]
    exact ⟨fun z => z.2, fun z => ⟨hj, z⟩⟩
  have ref : ∀ (Y : Int32 → Sg → Prop), (∀ τ', eqM τ τ' → BT (hkF σ p) (pkF σ p) n (unkF σ (nQ σ)) (fun r => VR v n r) τ' → (0 ≤ (τ' 0 19) → (¬ x3 = (-2 : Int32) → (¬ x3 = (-1 : Int32) → vp_in x3 3 ∧ (Y (τ' 13 x3.toNatClampNeg) τ')) ∧ (x3 = (-1 : Int32) → Y (τ' 0 19) τ')) ∧ (x3 = (-2 : Int32) → Y (τ' 0 20) τ')) ∧ (¬ 0 ≤ (τ' 0 19) → CallI E' shR (d' + 8) mX11_error [.ref 0, .int (-1000000002 : Int32)] τ' (fun y15 σ14 => Y y15 σ14))) → CallI E' shR (d' + 9) mX11_bailiffs [.ref 0, .int (nI p), .int (nI n), .int x3] τ Y := by
    intro Y hY
    refine vc_Md_bailiffs (T_isPerson hA hRA (k_ifT q (T_in (k_ifT q2 (T_in (k_ifnT q3 ?_))))))
    rintro _ rfl
    refine T_takes (d := d' + (3 - n)) (v := v) (n := n) (u := unkF σ (nQ σ)) (p := p) (hk := hkF σ p) (pk := pkF σ p) hn3 hp6 (by omega) bp bh n 0 (Nat.zero_add _) (fun _ => 0) 0 σ _ _ _ (by omega) ?_ (fun i hi => absurd hi (Nat.not_lt_zero i)) (fun z => absurd z (Nat.lt_irrefl 0)) (by decide) (fun j hj => absurd hj (Nat.not_lt_zero j)) rfl (fun j _ hj => ⟨rfl, rfl, hvb j hj⟩) ?_ (fun τ' f _ B => hY τ' (eqM.tr (eqM.put0 (by decide)) f) (B.cg (fun r => ⟨fun z => z.1, fun z => ⟨z, Or.inr (fun j hj => absurd hj (Nat.not_lt_zero j))⟩⟩)))
    · rw [k_put_ne (by decide)]; exact hR.rw
    · refine Or.inl ⟨by rw [k_put_at, upd_at], ?_⟩
      rintro r ⟨-, ⟨i, i1, -⟩ | ⟨-, -, z⟩⟩
      · exact absurd i1 (Nat.not_lt_zero i)
      · exact absurd z (Nat.not_lt_zero _)
  refine T_howManyDays hp6 ?_
  rw [hv]
  have tl := toF_le v 28
  rw [nI_leI (by omega) (by omega)]
  refine ⟨fun c => ?_, fun c => T_err (by decide) (ref _ (fun τ' f B => ?_))⟩
  · obtain ⟨g, g1, g2, g3, g4⟩ := tk_ok (hk := hkF σ p) (pk := pkF σ p) (v := v) (fun j _ => bp j) hn1 hn3 c
    have sp : sF (pkF σ p) g n ≤ 2997 := by
      have := sF_le (f := pkF σ p) (r := g) (b := 999) (fun j => by have := bp j; omega) n
      omega
    have sh : sF (hkF σ p) g n ≤ 24 := by
      have := sF_le (f := hkF σ p) (r := g) (b := 8) bh n
      omega
    refine T_taken hA hQ hR.rw.x.iv hp6 hn3 (fun σ' e' hT => ?_)
    rw [hv]
    have fin : ∀ y, (x3 = (-2 : Int32) → y = nI (sF (pkF σ p) g n)) → (x3 = (-1 : Int32) → y = nI (unkF σ (nQ σ) + sF (hkF σ p) g n)) → (∀ j, j < n → x3 = nI j → y = nI (g j)) → CallI E' shR (d' + 9) mX11_bailiffs [.ref 0, .int (nI p), .int (nI n), .int x3] τ (fun w τ' => Z y w σ' τ') := by
      intro y y1 y2 y3
      refine ref _ (fun τ' f B => ?_)
      have hR' := hR.congrW e' f
      rcases B with ⟨-, B⟩ | ⟨b, b1, b2, b3, b4, b5⟩
      · exact absurd g1 (B g)
      · have ag : Ag n b g := (best_of hn1 hn3 g1 g4 b1).elim id (fun z => absurd z (b2 g g1))
        rw [sF_ag ag] at b3 b4
        rw [b3, b4, k_0len (by omega)]
        refine ⟨fun _ => ⟨fun z1 => ⟨fun z2 => ?_, fun z2 => ?_⟩, fun z1 => ?_⟩, fun z => absurd trivial z⟩
        · rcases hx3 with z | z | ⟨j, hj, z⟩
          · exact absurd z z1
          · exact absurd z z2
          · have := y3 j hj z
            rw [z, this]
            refine ⟨vp_in_nI (by omega) (by decide), ?_⟩
            rw [show (nI j).toNatClampNeg = j from nI_clamp (by omega), b5 j hj, ag j hj]
            exact h _ _ _ hR'
        · rw [y2 z2]; exact h _ _ _ hR'
        · rw [y1 z1]; exact h _ _ _ hR'
    refine ⟨fun z => vc_Thoughts_pricesOf (T_sumOver_54 hT (fin _ (fun _ => by rw [g2]) (fun z2 => ?_) (fun j hj z2 => ?_))), fun z => T_howManyUnkept (hA.d e') (hQ.d e') (vc_Thoughts_harmsOf (T_sumOver_55 hT (fin _ (fun z2 => ?_) (fun _ => ?_) (fun j hj z2 => ?_)))), fun z1 z2 => ?_⟩
    · rw [z] at z2; exact absurd z2 (by decide)
    · rw [z] at z2
      have := k_eqi.mp z2
      rw [nI_toInt (by omega), e2] at this; omega
    · rw [z] at z2; exact absurd z2 (by decide)
    · rw [g2, nI_add]
      have : nQ σ' = nQ σ := by unfold nQ; rw [e' 8 (by decide)]
      rw [this, unkF_d e']
    · rw [z] at z2
      have := k_eqi.mp z2
      rw [nI_toInt (by omega), e3] at this; omega
    · rcases hx3 with z | z | ⟨j, hj, z⟩
      · exact absurd z z1
      · exact absurd z z2
      · obtain ⟨m1, m2⟩ := g3 j hj
        rw [z]
        rw [z] at fin z1 z2
        refine T_memberOf (g1 j hj).1.1 m1 m2 (fin _ (fun y => absurd y z1) (fun y => absurd y z2) (fun i hi y => ?_))
        have : j = i := (nI_eq (by omega) (by omega)).mp y
        rw [this]
  · have hR' := hR.congrW eqD.rf f
    rcases B with ⟨b1, -⟩ | ⟨b, b1, -⟩
    · rw [b1]
      exact ⟨fun z => absurd z (by decide), fun _ => T_Merr2 (h _ _ _ (hR'.err (by decide)))⟩
    · exact absurd (VR_le b1 hn1) c
end P66
