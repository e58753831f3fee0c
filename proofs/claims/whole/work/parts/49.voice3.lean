/-! promises 40, 41: voices, both sides -/
theorem RR.tr {σ σ' τ τ' : Sg} (h : RR σ τ) (hv : RV σ' τ') (e : ∀ i, i ≠ 56 → i ≠ 57 → i ≠ 58 → σ' i = σ i) (f : ∀ i, i ≠ 0 → i ≠ 14 → τ' i = τ i) (f0 : τ' 0 3 = τ 0 3) : RR σ' τ' := by
  obtain ⟨⟨h1, h2⟩, ⟨h3, h4⟩, h5, h6, -⟩ := h
  have eW : ∀ i, i ∈ [1, 2, 3, 4, 5, 6, 7, 8, 9, 10, 11, 13, 14, 17, 18, 20, 21, 22, 23] → σ' i = σ i := fun i q => by
    have : i ≤ 23 := by revert i; decide
    exact e i (by omega) (by omega) (by omega)
  have eI : ∀ i, i ∈ [1, 2, 3, 4, 5, 6, 7, 8, 9, 10, 11, 13, 14, 17, 18, 20, 21, 22, 23] → k_sh σ' i = k_sh σ i := fun i q => by
    have : i ≤ 23 := by revert i; decide
    exact e (i + 23) (by omega) (by omega) (by omega)
  have e0 : σ' 0 = σ 0 := e 0 (by decide) (by decide) (by decide)
  have e1 : σ' 1 = σ 1 := e 1 (by decide) (by decide) (by decide)
  have e24 : k_sh σ' 1 = k_sh σ 1 := e 24 (by decide) (by decide) (by decide)
  refine ⟨⟨?_, ?_⟩, ⟨?_, ?_⟩, ?_, ?_, hv⟩
  · rw [f 1 (by decide) (by decide)]; exact h1.congr eW
  · simp only [nT, e1] at *; exact h2
  · rw [f0, e0]; exact h3
  · rw [e0, f 2 (by decide) (by decide)]; intro q
    refine ⟨(h4 q).1.congr eI, ?_⟩
    have := (h4 q).2
    simp only [nT] at *
    rw [e24]; exact this
  · rw [f 4 (by decide) (by decide), e 63 (by decide) (by decide) (by decide)]; exact h5
  · unfold RS at *
    rw [f 5 (by decide) (by decide), f 6 (by decide) (by decide), f 7 (by decide) (by decide), e 60 (by decide) (by decide) (by decide), e 61 (by decide) (by decide) (by decide), e 62 (by decide) (by decide) (by decide)]; exact h6
def p23 (τ : Sg) (v : Int32) : Sg := k_put τ 0 (upd (τ 0) 23 v)
theorem RV.p23 {σ τ : Sg} {v : Int32} (h : RV σ τ) : RV σ (p23 τ v) := h
theorem RV.fl {σ τ : Sg} {l : List Nat} {fl : Bool} (h : RV (adC σ l) τ) : RV (stF σ l fl) τ := by
  unfold stF
  split
  · exact h
  · exact h
section P49
variable {E E' : KE} {S : Shp} {d d' : Nat} {x1 x2 x3 : Int32} {σ τ : Sg} {Z : Int32 → Int32 → Sg → Sg → Prop} {K : Int32 → Sg → Prop} {L : Sg → Prop}
variable {p k : Nat} {m x : Int32}
theorem T_plainParts (h0 : R31 τ) (hp : p < 6) (em : τ 1 (10 + 32 * p + 1) = m) (h1 : ¬ m - nI p = 0 → K (x / (m - nI p)) (p23 (aR1 τ 13) (nI 0))) (h2 : m - nI p = 0 → K (nI 0) (p23 (aR1 τ 13) (nI 1))) : CallI E shR (d + 1) mX11_plainParts [.ref 0, .int (nI p), .int x] τ K := by
  refine vc_Md_plainParts (T_begins h0 (T_Mof hp (by decide) ?_))
  rw [aR1_ne (by decide) (by decide), em]
  refine ⟨fun c => ?_, fun c => ?_⟩
  · rintro _ rfl
    exact ⟨fun _ => ⟨c, h1 c⟩, fun z => absurd (by rw [k_put_at, upd_at]; rfl) z⟩
  · rintro _ rfl
    exact ⟨fun z => absurd z (by rw [k_put_at, upd_at]; decide), fun _ => h2 c⟩
theorem T_speak (hp : p < 6) (h : ∀ σ', (∀ i, i ≠ 56 → i ≠ 57 → σ' i = σ i) → (σ' 56 1 = nI 0 ∧ σ' 56 2 = σ 3 p ∧ σ' 56 3 = nI p ∧ σ' 56 4 = σ 4 p) → σ' 57 = upd (σ 57) 1 (nI 0) → CallI E shC d mX8_own [.ref 56, .int x1, .int x2, .int (nI 0)] σ' K) : CallI E shC (d + 1) mX8_speak [.ref 56, .int (nI p), .ref 2, .int x1, .int x2] σ K := by
  refine vc_Voices_speak ?_
  rintro _ rfl
  rintro _ rfl
  refine ⟨vp_in_nI hp (by decide), ?_⟩
  rintro _ rfl
  rintro _ rfl
  refine ⟨vp_in_nI hp (by decide), ?_⟩
  rintro _ rfl
  rw [show (nI p).toNatClampNeg = p from nI_clamp (by omega)]
  refine h _ (fun i a b => ?_) ⟨rfl, rfl, rfl, rfl⟩ rfl
  rw [k_put_ne a, k_put_ne a, k_put_ne a, k_put_ne a, k_put_ne b]
theorem P_voice (hR : RR σ τ) (h : ∀ v σ' τ', RR σ' τ' → Z v v σ' τ') : CallI E shC (d + 46) mX10_voice [.ref 0, .int x1, .int x2, .int x3] σ (fun v σ' => CallI E' shR (d' + 10) mX11_voice [.ref 0, .int x1, .int x2, .int x3] τ (fun w τ' => Z v w σ' τ')) := by
  have hA := hR.rw.a
  have hRA := hR.rw.ra
  have hn := nP_le hA
  refine vc_SD_voice (T_knows hA (k_if (fun q => T_err (by decide) ?_) (fun q => T_isWithin (k_ifn (fun q2 => ?_) (fun q2 => T_err (by decide) ?_)))))
  · exact vc_Md_voice (T_isPerson hA hRA (k_ifF q (T_Merr1 (h _ _ _ (hR.err (by decide))))))
  rotate_left
  · exact vc_Md_voice (T_isPerson hA hRA (k_ifT q (T_in (k_ifnF q2 (T_Merr1 (h _ _ _ (hR.err (by decide))))))))
  obtain ⟨p, hp, rfl⟩ := id q
  obtain ⟨vc, -, hvc, rfl⟩ := (k_wi (by decide) (by decide)).mp q2
  obtain ⟨⟨⟨k, hk, ek⟩, -, -, -⟩, -⟩ := hA.2 p (by omega)
  obtain ⟨⟨rk, rm, -, -⟩, -⟩ := hRA.2 p (by omega)
  have hp6 : p < 6 := by omega
  refine T_speak hp6 (fun σs es e56 e57 => ?_)
  obtain ⟨f1, f2, f3, f4⟩ := e56
  rw [ek] at f2
  have hVH : VH (nI p) (σ 4 p) k σs := ⟨f1, f2, f3, f4, by rw [e57, upd_at]; exact ⟨0, by decide, rfl⟩⟩
  -- the reference's beginning
  let τs : Sg := k_put (k_put τ 0 (upd (τ 0) 22 (nI 0))) 0 (upd ((k_put τ 0 (upd (τ 0) 22 (nI 0))) 0) 23 (nI 0))
  have t0 : τs 0 22 = nI 0 := rfl
  have t23 : τs 0 23 = nI 0 := rfl
  have t3 : τs 0 3 = τ 0 3 := rfl
  have tn : ∀ i, i ≠ 0 → τs i = τ i := fun i hi => by
    show k_put (k_put τ 0 _) 0 _ i = _
    rw [k_put_ne hi, k_put_ne hi]
  have hRV : RV σs τs := by
    refine ⟨⟨by rw [e57, upd_at]; exact ⟨0, by decide, rfl⟩, by rw [t0, e57, upd_at]⟩, fun j hj => ?_⟩
    rw [tn 14 (by decide), es 58 (by decide) (by decide)]
    exact hR.2.2.2.2.2 j hj
  have h31 : R31 τs := by unfold R31; rw [t0]; exact ⟨0, by decide, rfl⟩
  have beg : ∀ {v : Int32} {σ' : Sg}, ((¬ nI vc = 0 → (¬ nI vc = (nI 1) → (¬ nI vc = (nI 2) → CallI E' shR (d' + 9) mX11_parts [.ref 0, .int (nI p), .int x3] τs (fun y12 σ11 => ((σ11 0 23) = 0 → Z v y12 σ' σ11) ∧ (¬ (σ11 0 23) = 0 → CallI E' shR (d' + 9) mX11_error [.ref 0, .int (-1000000006 : Int32)] σ11 (fun y14 σ13 => Z v y14 σ' σ13)))) ∧ (nI vc = (nI 2) → CallI E' shR (d' + 9) mX11_ages [.ref 0, .int (nI p), .int x3] τs (fun y16 σ15 => ((σ15 0 23) = 0 → Z v y16 σ' σ15) ∧ (¬ (σ15 0 23) = 0 → CallI E' shR (d' + 9) mX11_error [.ref 0, .int (-1000000006 : Int32)] σ15 (fun y18 σ17 => Z v y18 σ' σ17))))) ∧ (nI vc = (nI 1) → CallI E' shR (d' + 9) mX11_trades [.ref 0, .int (nI p), .int x3] τs (fun y20 σ19 => ((σ19 0 23) = 0 → Z v y20 σ' σ19) ∧ (¬ (σ19 0 23) = 0 → CallI E' shR (d' + 9) mX11_error [.ref 0, .int (-1000000006 : Int32)] σ19 (fun y22 σ21 => Z v y22 σ' σ21))))) ∧ (nI vc = 0 → CallI E' shR (d' + 9) mX11_yawns [.ref 0, .int (nI p), .int x3] τs (fun y24 σ23 => ((σ23 0 23) = 0 → Z v y24 σ' σ23) ∧ (¬ (σ23 0 23) = 0 → CallI E' shR (d' + 9) mX11_error [.ref 0, .int (-1000000006 : Int32)] σ23 (fun y26 σ25 => Z v y26 σ' σ25))))) → CallI E' shR (d' + 10) mX11_voice [.ref 0, .int (nI p), .int (nI vc), .int x3] τ (fun w τ' => Z v w σ' τ') := by
    intro v σ' hh
    refine vc_Md_voice (T_isPerson hA hRA (k_ifT q (T_in (k_ifnT q2 ?_))))
    rintro _ rfl
    rintro _ rfl
    exact hh
  have fin : ∀ l fl τ', RV (adC σs l) τ' → (∀ i, i ≠ 0 → i ≠ 14 → τ' i = τ i) → τ' 0 3 = τ 0 3 → RR (stF σs l fl) τ' := by
    intro l fl τ' a b c
    refine hR.tr a.fl (fun i i1 i2 i3 => ?_) b c
    have : stF σs l fl i = adC σs l i := by
      unfold stF
      split
      · exact k_put_ne i1
      · rfl
    rw [this, adC_ne i2 i3, es i i1 i2]
  have one : ∀ l, RR (stF σs l false) (aRR τs l) := fun l => fin l false _ (hRV.ads l) (fun i a b => by rw [aRR_ne a b, tn i a]) (by rw [aRR_0 (by decide), t3])
  have o23 : ∀ l, aRR τs l 0 23 = 0 := fun l => by rw [aRR_0 (by decide), t23]; rfl
  have e1k : τs 1 (10 + 32 * p + 0) = nI k := by rw [tn 1 (by decide), Nat.add_zero, rk, ek]
  have e1m : τs 1 (10 + 32 * p + 1) = σ 4 p := by rw [tn 1 (by decide), rm]
  refine vc_Voices_own ?_
  rw [f2]
  refine T_sound hk 13 (dep := 0) (d := d) rfl hk (by omega) hVH ?_
  rw [stF_1, f1]
  have c : vc = 0 ∨ vc = 1 ∨ vc = 2 ∨ vc = 3 := by omega
  rcases c with rfl | rfl | rfl | rfl
  · rw [sf_0 _ _ _ k hk]
    refine ⟨fun _ => beg ⟨fun z => absurd rfl z, fun _ => (T_yawns h31 hp6 hk e1k ⟨fun _ => h _ _ _ (one _), fun z => absurd (o23 _) z⟩).deep (d := d' + 3) (by omega)⟩, fun z => absurd (by rfl) z⟩
  · rw [sf_1 _ _ _ k hk]
    refine ⟨fun _ => beg ⟨fun _ => ⟨fun z => absurd rfl z, fun _ => (T_trades h31 hp6 hk e1k e1m ⟨fun _ => h _ _ _ (one _), fun z => absurd (o23 _) z⟩).deep (d := d' + 6) (by omega)⟩, fun z => absurd z (by decide)⟩, fun z => absurd (by rfl) z⟩
  · rw [sf_2 _ _ _ k hk]
    refine ⟨fun _ => beg ⟨fun _ => ⟨fun _ => ⟨fun z => absurd rfl z, fun _ => (T_ages h31 hp6 hk e1k e1m ⟨fun _ => h _ _ _ (one _), fun z => absurd (o23 _) z⟩).deep (d := d' + 8) (by omega)⟩, fun z => absurd z (by decide)⟩, fun z => absurd z (by decide)⟩, fun z => absurd (by rfl) z⟩
  · rw [sf_3 _ _ _ k hk]
    have begP : ∀ {v : Int32} {σ' : Sg}, CallI E' shR (d' + 9) mX11_parts [.ref 0, .int (nI p), .int x3] τs (fun y12 σ11 => ((σ11 0 23) = 0 → Z v y12 σ' σ11) ∧ (¬ (σ11 0 23) = 0 → CallI E' shR (d' + 9) mX11_error [.ref 0, .int (-1000000006 : Int32)] σ11 (fun y14 σ13 => Z v y14 σ' σ13))) → CallI E' shR (d' + 10) mX11_voice [.ref 0, .int (nI p), .int (nI 3), .int x3] τ (fun w τ' => Z v w σ' τ') := fun hh => beg ⟨fun _ => ⟨fun _ => ⟨fun _ => hh, fun z => absurd z (by decide)⟩, fun z => absurd z (by decide)⟩, fun z => absurd z (by decide)⟩
    have cb : ∀ {j : Nat}, j < 100 → nI k = nI j → k = j := fun hj c => (nI_eq (by omega) (by omega)).mp c
    have k14 : (k = 1 ∨ k = 4) ∨ ¬ (k = 1 ∨ k = 4) := by omega
    -- parts with two bodies, parts with one
    have two : (k = 1 ∨ k = 4) → ∀ {K : Int32 → Sg → Prop}, CallI E' shR (d' + 8) mX11_plainParts [.ref 0, .int (nI p), .int x3] (aR1 τs 21) (fun y5 σ4 => ((σ4 0 23) = 0 → CallI E' shR (d' + 8) mX11_trades [.ref 0, .int (nI p), .int (nI 1)] σ4 (fun y7 σ6 => K (y5 + y7) σ6)) ∧ (¬ (σ4 0 23) = 0 → K (nI 0) σ4)) → CallI E' shR (d' + 9) mX11_parts [.ref 0, .int (nI p), .int x3] τs K := by
      intro kk K hh
      refine vc_Md_parts (T_Mof hp6 (by decide) ?_)
      rw [e1k]
      rcases kk with rfl | rfl
      · exact ⟨fun _ => T_begins h31 hh, fun z => absurd rfl z⟩
      · refine ⟨fun z => absurd z (by decide), fun _ => T_Mof hp6 (by decide) ?_⟩
        rw [e1k]
        exact ⟨fun z => absurd rfl z, fun _ => T_begins h31 hh⟩
    have single : ¬ (k = 1 ∨ k = 4) → ∀ {K : Int32 → Sg → Prop}, CallI E' shR (d' + 8) mX11_plainParts [.ref 0, .int (nI p), .int x3] τs K → CallI E' shR (d' + 9) mX11_parts [.ref 0, .int (nI p), .int x3] τs K := by
      intro kk K hh
      refine vc_Md_parts (T_Mof hp6 (by decide) ?_)
      rw [e1k]
      refine ⟨fun z => absurd (Or.inl (cb (by decide) z)) kk, fun _ => T_Mof hp6 (by decide) ?_⟩
      rw [e1k]
      exact ⟨fun _ => hh, fun z => absurd (Or.inr (cb (by decide) z)) kk⟩
    have pn : ∀ (t : Sg) v i, i ≠ 0 → p23 t v i = t i := fun t v i hi => k_put_ne hi
    have p3 : ∀ (t : Sg) v, p23 t v 0 3 = t 0 3 := fun t v => rfl
    have pv : ∀ (t : Sg) v, p23 t v 0 23 = v := fun t v => rfl
    have s21 : R31 (aR1 τs 21) := h31.ad1
    have em21 : aR1 τs 21 1 (10 + 32 * p + 1) = σ 4 p := by rw [aR1_ne (by decide) (by decide), e1m]
    by_cases c2 : σ 4 p - nI p = 0
    · rw [if_pos c2]
      by_cases k2 : k = 1 ∨ k = 4
      · rw [if_pos k2]
        refine ⟨fun z => absurd z (by decide), fun _ => T_err (by decide) (begP (two k2 (T_plainParts s21 hp6 em21 (fun z => absurd c2 z) (fun _ => ⟨fun z => absurd z (by rw [pv]; decide), fun _ => ⟨fun z => absurd z (by rw [pv]; decide), fun _ => T_Merr6 (h _ _ _ (RR.err (fin [21, 13] true _ ?_ ?_ ?_) (by decide)))⟩⟩))))⟩
        · exact (RV.p23 (RV.one (RV.one hRV)))
        · intro i a b; rw [pn _ _ i a, aR1_ne a b, aR1_ne a b, tn i a]
        · rw [p3, aR1_0 (by decide), aR1_0 (by decide), t3]
      · rw [if_neg k2]
        refine ⟨fun z => absurd z (by decide), fun _ => T_err (by decide) (begP (single k2 (T_plainParts h31 hp6 e1m (fun z => absurd c2 z) (fun _ => ⟨fun z => absurd z (by rw [pv]; decide), fun _ => T_Merr6 (h _ _ _ (RR.err (fin [13] true _ ?_ ?_ ?_) (by decide)))⟩))))⟩
        · exact (RV.p23 (RV.one hRV))
        · intro i a b; rw [pn _ _ i a, aR1_ne a b, tn i a]
        · rw [p3, aR1_0 (by decide), t3]
    · rw [if_neg c2]
      by_cases k2 : k = 1 ∨ k = 4
      · rw [if_pos k2]
        refine ⟨fun _ => begP (two k2 (T_plainParts s21 hp6 em21 (fun _ => ⟨fun _ => ?_, fun z => absurd (by rw [pv]; rfl) z⟩) (fun z => absurd z c2))), fun z => absurd (by rfl) z⟩
        have s13 : R31 (p23 (aR1 (aR1 τs 21) 13) (nI 0)) := R31.ad1 (b := 13) s21
        have ek2 : p23 (aR1 (aR1 τs 21) 13) (nI 0) 1 (10 + 32 * p + 0) = nI k := by rw [pn _ _ 1 (by decide), aR1_ne (by decide) (by decide), aR1_ne (by decide) (by decide), e1k]
        have em2 : p23 (aR1 (aR1 τs 21) 13) (nI 0) 1 (10 + 32 * p + 1) = σ 4 p := by rw [pn _ _ 1 (by decide), aR1_ne (by decide) (by decide), aR1_ne (by decide) (by decide), e1m]
        refine CallI.deep (d := d' + 6) (T_trades s13 hp6 hk ek2 em2 ⟨fun _ => h _ _ _ (fin (21 :: 13 :: (trF (nI p) (σ 4 p) k (nI 1)).1) false _ ?_ ?_ ?_), fun z => absurd (by rw [aRR_0 (by decide), pv]; rfl) z⟩) (by omega)
        · exact RV.ads _ (RV.p23 (RV.one (RV.one hRV)))
        · intro i a b; rw [aRR_ne a b, pn _ _ i a, aR1_ne a b, aR1_ne a b, tn i a]
        · rw [aRR_0 (by decide), p3, aR1_0 (by decide), aR1_0 (by decide), t3]
      · rw [if_neg k2]
        refine ⟨fun _ => begP (single k2 (T_plainParts h31 hp6 e1m (fun _ => ⟨fun _ => h _ _ _ (fin [13] false _ ?_ ?_ ?_), fun z => absurd (by rw [pv]; rfl) z⟩) (fun z => absurd z c2))), fun z => absurd (by rfl) z⟩
        · exact (RV.p23 (RV.one hRV))
        · intro i a b; rw [pn _ _ i a, aR1_ne a b, tn i a]
        · rw [p3, aR1_0 (by decide), t3]
end P49
