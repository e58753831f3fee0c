/-! promises 40, 41: voices -/
def bdF (f v : Nat) : Nat := cl (k_tv 1 (f * 4 + v))
def spL : Nat → Nat → Nat → Nat
  | 0, f, _ => f
  | n + 1, f, v => if bdF f v = 0 then spL n (abF f) v else f
theorem bd_ok : ∀ f, f < 7 → ∀ v, v < 4 → k_tv 1 (f * 4 + v) = nI (bdF f v) ∧ bdF f v < 100 ∧ spL 7 f v < 7 := by decide
/-- what a voice does: the bodies, the answer, whether the one who speaks parts -/
def sfF (p m : Int32) (kd : Nat) : Nat → Nat → Nat → Int32 → List Nat × Int32 × Bool
  | 0, _, _, _ => ([], nI 0, false)
  | n + 1, f, v, x =>
    let b := bdF (spL 7 f v) v
    let ab := abF (spL 7 f v)
    if b = 10 then ([10], x + p, false)
    else if b = 11 then (11 :: (sfF p m kd n kd 0 x).1, (sfF p m kd n kd 0 x).2.1 * nI 2, (sfF p m kd n kd 0 x).2.2)
    else if b = 12 then (12 :: (sfF p m kd n kd 1 x).1, (sfF p m kd n kd 1 x).2.1 - m, (sfF p m kd n kd 1 x).2.2)
    else if b = 13 then (if m - p = 0 then ([13], nI 0, true) else ([13], x / (m - p), false))
    else if b = 20 then (20 :: (sfF p m kd n ab 0 x).1, (sfF p m kd n ab 0 x).2.1 - nI 4, (sfF p m kd n ab 0 x).2.2)
    else if b = 21 then (if (sfF p m kd n ab 3 x).2.2 = true then (21 :: (sfF p m kd n ab 3 x).1, nI 0, true) else (21 :: ((sfF p m kd n ab 3 x).1 ++ (sfF p m kd n kd 1 (nI 1)).1), (sfF p m kd n ab 3 x).2.1 + (sfF p m kd n kd 1 (nI 1)).2.1, (sfF p m kd n kd 1 (nI 1)).2.2))
    else if b = 30 then (30 :: (sfF p m kd n ab 1 x).1, nI 0 - (sfF p m kd n ab 1 x).2.1, (sfF p m kd n ab 1 x).2.2)
    else if b = 40 then (40 :: (sfF p m kd n ab 2 (x / nI 2)).1, (sfF p m kd n ab 2 (x / nI 2)).2.1, (sfF p m kd n ab 2 (x / nI 2)).2.2)
    else if b = 50 then (50 :: (sfF p m kd n ab 0 x).1, (sfF p m kd n ab 0 x).2.1 * nI 3, (sfF p m kd n ab 0 x).2.2)
    else if b = 51 then (51 :: (sfF p m kd n ab 2 x).1, (sfF p m kd n ab 2 x).2.1 ^^^ p, (sfF p m kd n ab 2 x).2.2)
    else if b = 60 then (60 :: (sfF p m kd n ab 1 (x + nI 1)).1, (sfF p m kd n ab 1 (x + nI 1)).2.1, (sfF p m kd n ab 1 (x + nI 1)).2.2)
    else if b = 70 then ([70], nI 9, false)
    else if b = 71 then (71 :: (sfF p m kd n ab 1 x).1, (sfF p m kd n ab 1 x).2.1 + m, (sfF p m kd n ab 1 x).2.2)
    else ([b], nI 0, false)
/-- a body is traced -/
def ad1 (σ : Sg) (b : Nat) : Sg := if cl (σ 57 1) < 30 then k_put (k_put σ 58 (upd (σ 58) (cl (σ 57 1)) (nI b))) 57 (upd (σ 57) 1 (σ 57 1 + nI 1)) else σ
def adC : Sg → List Nat → Sg
  | σ, [] => σ
  | σ, b :: l => adC (ad1 σ b) l
theorem adC_app : ∀ (l k : List Nat) (σ : Sg), adC σ (l ++ k) = adC (adC σ l) k
  | [], _, _ => rfl
  | b :: l, k, σ => adC_app l k (ad1 σ b)
theorem ad1_ne {σ : Sg} {b i : Nat} (h : i ≠ 57) (h2 : i ≠ 58) : ad1 σ b i = σ i := by
  unfold ad1
  split
  · rw [k_put_ne h, k_put_ne h2]
  · rfl
theorem adC_ne {i : Nat} (h : i ≠ 57) (h2 : i ≠ 58) : ∀ (l : List Nat) (σ : Sg), adC σ l i = σ i
  | [], _ => rfl
  | b :: l, σ => by simp only [adC]; rw [adC_ne h h2 l, ad1_ne h h2]
theorem ad1_57 {σ : Sg} {b : Nat} (h : k_lt (σ 57 1) 31) : k_lt (ad1 σ b 57 1) 31 := by
  obtain ⟨n, hn, e⟩ := h
  unfold ad1
  have ecl : cl (σ 57 1) = n := by rw [e]; exact nI_clamp (by omega)
  rw [ecl]
  split
  · rw [k_put_at, upd_at, e, nI_add]; exact ⟨n + 1, by omega, rfl⟩
  · exact ⟨n, hn, e⟩
theorem adC_57 : ∀ (l : List Nat) (σ : Sg), k_lt (σ 57 1) 31 → k_lt (adC σ l 57 1) 31
  | [], _, h => h
  | b :: l, σ, h => adC_57 l _ (ad1_57 h)
def stF (σ : Sg) (l : List Nat) (fl : Bool) : Sg := if fl = true then k_put (adC σ l) 56 (upd (adC σ l 56) 1 (nI 1)) else adC σ l
def VH (p m : Int32) (kd : Nat) (σ : Sg) : Prop := σ 56 1 = nI 0 ∧ σ 56 2 = nI kd ∧ σ 56 3 = p ∧ σ 56 4 = m ∧ k_lt (σ 57 1) 31
theorem VH.ad1 {p m : Int32} {kd b : Nat} {σ : Sg} (h : VH p m kd σ) : VH p m kd (ad1 σ b) := by
  obtain ⟨a1, a2, a3, a4, a5⟩ := h
  unfold VH
  rw [ad1_ne (by decide) (by decide)]
  exact ⟨a1, a2, a3, a4, ad1_57 a5⟩
theorem VH.adC {p m : Int32} {kd : Nat} : ∀ (l : List Nat) {σ : Sg}, VH p m kd σ → VH p m kd (adC σ l)
  | [], _, h => h
  | b :: l, σ, h => VH.adC l h.ad1
theorem stF_34 {σ : Sg} {l : List Nat} {fl : Bool} {j : Nat} (h : j ≠ 1) : stF σ l fl 56 j = σ 56 j := by
  unfold stF
  split
  · rw [k_put_at, upd_ne h, adC_ne (by decide) (by decide)]
  · rw [adC_ne (by decide) (by decide)]
theorem stF_1 {σ : Sg} {l : List Nat} {fl : Bool} : stF σ l fl 56 1 = if fl = true then nI 1 else σ 56 1 := by
  unfold stF
  split
  · rw [k_put_at, upd_at]
  · rw [adC_ne (by decide) (by decide)]
section P47
variable {E E' : KE} {S : Shp} {d d' : Nat} {x1 x2 x3 : Int32} {σ τ : Sg} {Z : Int32 → Int32 → Sg → Sg → Prop} {K : Int32 → Sg → Prop} {L : Sg → Prop}
theorem T_bodyOf {f v : Nat} (hf : f < 7) (hv : v < 4) (h : K (nI (bdF f v)) σ) : CallI E S (d + 1) mX0_bodyOf [.int (nI f), .int (nI v)] σ K := by
  refine vc_Kinds_bodyOf (T_isKind (k_ifT ⟨f, hf, rfl⟩ ?_))
  simp (disch := omega) only [nI_clamp, nI_add, pk_mul, pk_sub, ↓pk_rem, pk_div, k_mod, k_m1, nI_ltI, nI_leI, nI_eq, k_n0lt, k_nle0, k_0ltn, k_0len, k_n0eq, k_vin, Nat.reduceAdd, Nat.reduceMul, Nat.reduceLT, Nat.reduceLeDiff, Nat.reduceSub, Nat.reduceEqDiff, Nat.zero_add, Nat.add_zero]
  rw [(bd_ok f hf v hv).1]
  exact ⟨fun z => absurd z (by first | decide | exact not_false), fun _ => ⟨fun z => absurd z (by omega), fun _ => ⟨trivial, h⟩⟩⟩
theorem T_speaker {f v : Nat} (hf : f < 7) (hv : v < 4) (h : K (nI (spL 7 f v)) σ) : CallI E S (d + 2) mX0_speaker [.int (nI f), .int (nI v)] σ K := by
  refine vc_Kinds_speaker ?_
  have loop : ∀ r k g, k + r = 7 → g < 7 → K (nI (spL r g v)) σ → WP E S mX0_speaker (d + 1 + 1) 4 [none, some (.int (nI v)), some (.int (nI g)), some (.int (nI k))] [] σ (k_qi K) := by
    intro r
    induction r with
    | zero =>
      intro k g hk hg hK
      have e : k = 7 := by omega
      subst e
      apply vb_Kinds_speaker_4
      exact ⟨fun _ => hK, fun z => absurd (Int32.le_refl _) z⟩
    | succ r ih =>
      intro k g hk hg hK
      have hb := (bd_ok g hg v hv).2.1
      apply vb_Kinds_speaker_4
      rw [nI_leI (by omega) (by omega), nI_add]
      simp only [spL] at hK
      refine ⟨fun z => absurd z (by omega), fun _ => T_bodyOf hg hv ⟨fun c => ?_, fun c => T_above hg ?_⟩⟩
      · rw [if_neg (fun z => c (by rw [z]; rfl))] at hK
        exact hK
      · rw [k_n0eq (by omega)] at c
        rw [if_pos c] at hK
        exact ih (k + 1) _ (by omega) (abF_ok g hg).1 hK
  exact loop 7 0 f rfl hf h
theorem T_add57 {b : Nat} (h57 : k_lt (σ 57 1) 31) (h : L (ad1 σ b)) : CallN E shC d mX4_add [.ref 57, .int (nI b)] σ L := by
  obtain ⟨n, hn, e⟩ := h57
  have ecl : cl (σ 57 1) = n := by rw [e]; exact nI_clamp (by omega)
  refine vc_Row_add_57 ?_
  unfold ad1 at h
  rw [ecl] at h
  rw [show (σ 57 1).toNatClampNeg = n from ecl, e]
  simp (disch := omega) only [nI_clamp, nI_add, pk_mul, pk_sub, ↓pk_rem, pk_div, k_mod, k_m1, nI_ltI, nI_leI, nI_eq, k_n0lt, k_nle0, k_0ltn, k_0len, k_n0eq, k_vin, Nat.reduceAdd, Nat.reduceMul, Nat.reduceLT, Nat.reduceLeDiff, Nat.reduceSub, Nat.reduceEqDiff, Nat.zero_add, Nat.add_zero]
  refine ⟨fun c => ?_, fun c => ⟨by first | exact trivial | exact vp_in_nI (by omega) (by decide), ?_⟩⟩
  · rw [if_neg (by omega)] at h; exact h
  · rw [if_pos (by omega)] at h
    rintro _ rfl
    rintro _ rfl
    rw [k_put_ne (by decide)]
    exact h
theorem T_part {x y : Int32} (h : K (if y = 0 then nI 0 else x / y) (if y = 0 then k_put σ 56 (upd (σ 56) 1 (nI 1)) else σ)) : CallI E shC d mX8_part [.ref 56, .int x, .int y] σ K := by
  refine vc_Voices_part ⟨fun c => ⟨c, ?_⟩, fun c => ?_⟩
  · rw [if_neg c, if_neg c] at h; exact h
  · rw [if_pos c, if_pos c] at h
    rintro _ rfl
    exact h
theorem T_sound {p m : Int32} {kd : Nat} (hkd : kd < 7) (n : Nat) : ∀ {dep f v : Nat} {x : Int32} {σ : Sg} {K : Int32 → Sg → Prop}, dep + n = 13 → f < 7 → v < 4 → VH p m kd σ → K (sfF p m kd n f v x).2.1 (stF σ (sfF p m kd n f v x).1 (sfF p m kd n f v x).2.2) → CallI E shC (d + 3 * n + 4) mX8_sound [.ref 56, .int (nI f), .int (nI v), .int x, .int (nI dep)] σ K := by
  induction n with
  | zero =>
    intro dep f v x σ K hd hf hv hV hK
    have e : dep = 13 := by omega
    subst e
    refine vc_Voices_sound ⟨fun z => absurd z (by decide), fun _ => ?_⟩
    simp only [sfF, stF, adC] at hK
    exact hK
  | succ n ih =>
    intro dep f v x σ K hd hf hv hV hK
    obtain ⟨-, hb, hs⟩ := bd_ok f hf v hv
    have hsp := (bd_ok (spL 7 f v) hs v hv).2.1
    have hab := (abF_ok (spL 7 f v) hs).1
    refine vc_Voices_sound ⟨fun _ => T_speaker hf hv (T_above hs (T_bodyOf hs hv (T_add57 hV.2.2.2.2 ?_))), fun z => absurd (by rw [nI_leI (by omega) (by omega)]; omega) z⟩
    unfold sfF at hK
    simp only [] at hK
    generalize abF (spL 7 f v) = ab at hK hab ⊢
    generalize bdF (spL 7 f v) v = b at hK hsp ⊢
    have hV1 : VH p m kd (ad1 σ b) := hV.ad1
    obtain ⟨w1, w2, w3, w4, w5⟩ := id hV1
    obtain ⟨v1, v2, v3, v4, v5⟩ := id hV
    have sound : ∀ {d' f v : Nat} {x : Int32} {σ : Sg} {K : Int32 → Sg → Prop}, d + 3 * n + 4 ≤ d' → f < 7 → v < 4 → VH p m kd σ → K (sfF p m kd n f v x).2.1 (stF σ (sfF p m kd n f v x).1 (sfF p m kd n f v x).2.2) → CallI E shC d' mX8_sound [.ref 56, .int (nI f), .int (nI v), .int x, .int (nI dep + nI 1)] σ K := by
      intro d' f v x σ K hd' hf hv hV hK
      rw [nI_add]
      exact (ih (by omega) hf hv hV hK).deep hd'
    have own : ∀ {d' v : Nat} {x : Int32} {σ : Sg} {K : Int32 → Sg → Prop}, d + 3 * n + 4 ≤ d' → v < 4 → VH p m kd σ → K (sfF p m kd n kd v x).2.1 (stF σ (sfF p m kd n kd v x).1 (sfF p m kd n kd v x).2.2) → CallI E shC (d' + 1) mX8_own [.ref 56, .int (nI v), .int x, .int (nI dep + nI 1)] σ K := by
      intro d' v x σ K hd' hv hV hK
      refine vc_Voices_own ?_
      rw [hV.2.1]
      exact sound hd' hkd hv hV hK
    have cb : ∀ {j : Nat}, j < 100 → nI b = nI j → b = j := fun hj c => (nI_eq (by omega) (by omega)).mp c
    refine ⟨fun c => ?_, fun c => ?_, fun c => ?_, fun c => ?_, fun c => ?_, fun c => ?_, fun c => ?_, fun c => ?_, fun c => ?_, fun c => ?_, fun c => ?_, fun c => ?_, fun c => ?_, fun n1 n2 n3 n4 n5 n6 n7 n8 n9 n10 n11 n12 n13 => ?_⟩
    · have e := cb (by decide) c
      subst e
      rw [w3]
      exact hK
    · have e := cb (by decide) c
      subst e
      simp only [Nat.reduceEqDiff, if_false, if_true] at hK
      exact own (by omega) (by decide) hV1 hK
    · have e := cb (by decide) c
      subst e
      simp only [Nat.reduceEqDiff, if_false, if_true] at hK
      refine own (by omega) (by decide) hV1 ?_
      rw [stF_34 (by decide), w4]
      exact hK
    · have e := cb (by decide) c
      subst e
      simp only [Nat.reduceEqDiff, if_false, if_true] at hK
      refine T_part ?_
      rw [w3, w4]
      by_cases c2 : m - p = 0
      · rw [if_pos c2] at hK
        rw [if_pos c2, if_pos c2]
        exact hK
      · rw [if_neg c2] at hK
        rw [if_neg c2, if_neg c2]
        exact hK
    · have e := cb (by decide) c
      subst e
      simp only [Nat.reduceEqDiff, if_false, if_true] at hK
      exact sound (by omega) hab (by decide) hV1 hK
    · have e := cb (by decide) c
      subst e
      simp only [Nat.reduceEqDiff, if_false, if_true] at hK
      refine vc_Voices_partAndTrade (sound (by omega) hab (by decide) hV1 ?_)
      rw [stF_1, w1]
      by_cases c2 : (sfF p m kd n ab 3 x).2.2 = true
      · rw [if_pos c2] at hK
        rw [if_pos c2]
        refine ⟨fun z => absurd z (by decide), fun _ => ?_⟩
        rw [c2]
        exact hK
      · rw [if_neg c2] at hK
        rw [if_neg c2]
        have c3 : (sfF p m kd n ab 3 x).2.2 = false := Bool.eq_false_iff.mpr c2
        refine ⟨fun _ => ?_, fun z => absurd rfl z⟩
        rw [c3]
        have hV2 : VH p m kd (adC (ad1 σ 21) (sfF p m kd n ab 3 x).1) := VH.adC _ hV1
        refine own (by omega) (by decide) hV2 ?_
        have es : stF (adC (ad1 σ 21) (sfF p m kd n ab 3 x).1) (sfF p m kd n kd 1 (nI 1)).1 (sfF p m kd n kd 1 (nI 1)).2.2 = stF σ (21 :: ((sfF p m kd n ab 3 x).1 ++ (sfF p m kd n kd 1 (nI 1)).1)) (sfF p m kd n kd 1 (nI 1)).2.2 := by
          unfold stF
          simp only [adC]
          rw [adC_app]
        rw [show stF (ad1 σ 21) (sfF p m kd n ab 3 x).1 false = adC (ad1 σ 21) (sfF p m kd n ab 3 x).1 from rfl, es]
        exact hK
    · have e := cb (by decide) c
      subst e
      simp only [Nat.reduceEqDiff, if_false, if_true] at hK
      exact sound (by omega) hab (by decide) hV1 hK
    · have e := cb (by decide) c
      subst e
      simp only [Nat.reduceEqDiff, if_false, if_true] at hK
      exact sound (by omega) hab (by decide) hV1 hK
    · have e := cb (by decide) c
      subst e
      simp only [Nat.reduceEqDiff, if_false, if_true] at hK
      exact sound (by omega) hab (by decide) hV1 hK
    · have e := cb (by decide) c
      subst e
      simp only [Nat.reduceEqDiff, if_false, if_true] at hK
      refine sound (by omega) hab (by decide) hV1 ?_
      rw [stF_34 (by decide), w3]
      exact hK
    · have e := cb (by decide) c
      subst e
      simp only [Nat.reduceEqDiff, if_false, if_true] at hK
      exact sound (by omega) hab (by decide) hV1 hK
    · have e := cb (by decide) c
      subst e
      exact hK
    · have e := cb (by decide) c
      subst e
      simp only [Nat.reduceEqDiff, if_false, if_true] at hK
      refine sound (by omega) hab (by decide) hV1 ?_
      rw [stF_34 (by decide), w4]
      exact hK
    · rw [if_neg (fun e => n1 (by rw [e])), if_neg (fun e => n2 (by rw [e])), if_neg (fun e => n3 (by rw [e])), if_neg (fun e => n4 (by rw [e])), if_neg (fun e => n5 (by rw [e])), if_neg (fun e => n6 (by rw [e])), if_neg (fun e => n7 (by rw [e])), if_neg (fun e => n8 (by rw [e])), if_neg (fun e => n9 (by rw [e])), if_neg (fun e => n10 (by rw [e])), if_neg (fun e => n11 (by rw [e])), if_neg (fun e => n12 (by rw [e])), if_neg (fun e => n13 (by rw [e]))] at hK
      exact hK
/-- the reference -/
def aR1 (τ : Sg) (b : Nat) : Sg := if cl (τ 0 22) < 30 then k_put (k_put τ 14 (upd (τ 14) (cl (τ 0 22)) (nI b))) 0 (upd (τ 0) 22 (τ 0 22 + nI 1)) else τ
def aRR : Sg → List Nat → Sg
  | τ, [] => τ
  | τ, b :: l => aRR (aR1 τ b) l
theorem aRR_app : ∀ (l k : List Nat) (τ : Sg), aRR τ (l ++ k) = aRR (aRR τ l) k
  | [], _, _ => rfl
  | b :: l, k, τ => aRR_app l k (aR1 τ b)
theorem aR1_ne {τ : Sg} {b i : Nat} (h : i ≠ 0) (h2 : i ≠ 14) : aR1 τ b i = τ i := by
  unfold aR1
  split
  · rw [k_put_ne h, k_put_ne h2]
  · rfl
theorem aRR_ne {i : Nat} (h : i ≠ 0) (h2 : i ≠ 14) : ∀ (l : List Nat) (τ : Sg), aRR τ l i = τ i
  | [], _ => rfl
  | b :: l, τ => by simp only [aRR]; rw [aRR_ne h h2 l, aR1_ne h h2]
theorem aR1_0 {τ : Sg} {b j : Nat} (h : j ≠ 22) : aR1 τ b 0 j = τ 0 j := by
  unfold aR1
  split
  · rw [k_put_at, upd_ne h]
  · rfl
theorem aRR_0 {j : Nat} (h : j ≠ 22) : ∀ (l : List Nat) (τ : Sg), aRR τ l 0 j = τ 0 j
  | [], _ => rfl
  | b :: l, τ => by simp only [aRR]; rw [aRR_0 h l, aR1_0 h]
def R31 (τ : Sg) : Prop := k_lt (τ 0 22) 31
theorem R31.ad1 {τ : Sg} {b : Nat} (h : R31 τ) : R31 (aR1 τ b) := by
  obtain ⟨n, hn, e⟩ := h
  unfold R31 aR1
  have ecl : cl (τ 0 22) = n := by rw [e]; exact nI_clamp (by omega)
  rw [ecl]
  split
  · rw [k_put_at, upd_at, e, nI_add]; exact ⟨n + 1, by omega, rfl⟩
  · exact ⟨n, hn, e⟩
theorem R31.adR : ∀ (l : List Nat) {τ : Sg}, R31 τ → R31 (aRR τ l)
  | [], _, h => h
  | b :: l, _, h => R31.adR l h.ad1
theorem RV.one {σ τ : Sg} {b : Nat} (h : RV σ τ) : RV (ad1 σ b) (aR1 τ b) := by
  obtain ⟨⟨⟨n, hn, e1⟩, e2⟩, e3⟩ := h
  have ecl : cl (σ 57 1) = n := by rw [e1]; exact nI_clamp (by omega)
  unfold RV ad1 aR1
  rw [e2, ecl]
  split
  · refine ⟨⟨?_, ?_⟩, fun j hj => ?_⟩
    · rw [k_put_at, upd_at, e1, nI_add]; exact ⟨n + 1, by omega, rfl⟩
    · rw [k_put_at, k_put_at, upd_at, upd_at]
    · rw [k_put_ne (by decide), k_put_at, k_put_ne (by decide), k_put_at]
      by_cases e : j = n
      · rw [e, upd_at, upd_at]
      · rw [upd_ne e, upd_ne e]; exact e3 j hj
  · exact ⟨⟨⟨n, hn, e1⟩, e2⟩, e3⟩
theorem RV.ads : ∀ (l : List Nat) {σ τ : Sg}, RV σ τ → RV (adC σ l) (aRR τ l)
  | [], _, _, h => h
  | b :: l, _, _, h => RV.ads l h.one
theorem T_begins {b : Nat} (h0 : R31 τ) (h : L (aR1 τ b)) : CallN E shR d mX11_begins [.ref 0, .int (nI b)] τ L := by
  obtain ⟨n, hn, e⟩ := h0
  have ecl : cl (τ 0 22) = n := by rw [e]; exact nI_clamp (by omega)
  refine vc_Md_begins ?_
  unfold aR1 at h
  rw [ecl] at h
  rw [show (τ 0 22).toNatClampNeg = n from ecl, e]
  simp (disch := omega) only [nI_clamp, nI_add, pk_mul, pk_sub, ↓pk_rem, pk_div, k_mod, k_m1, nI_ltI, nI_leI, nI_eq, k_n0lt, k_nle0, k_0ltn, k_0len, k_n0eq, k_vin, Nat.reduceAdd, Nat.reduceMul, Nat.reduceLT, Nat.reduceLeDiff, Nat.reduceSub, Nat.reduceEqDiff, Nat.zero_add, Nat.add_zero]
  refine ⟨fun c => ?_, fun c => ⟨by first | exact trivial | exact vp_in_nI (by omega) (by decide), ?_⟩⟩
  · rw [if_neg (by omega)] at h; exact h
  · rw [if_pos (by omega)] at h
    rintro _ rfl
    rintro _ rfl
    rw [k_put_ne (by decide)]
    exact h
/-- what the reference's voices do, kind by kind -/
def pyF (p x : Int32) : List Nat × Int32 := ([10], x + p)
def syF (p x : Int32) : List Nat × Int32 := (20 :: (pyF p x).1, (pyF p x).2 - nI 4)
def ywF (p : Int32) (k : Nat) (x : Int32) : List Nat × Int32 := if k = 1 then syF p x else if k = 4 then (50 :: (syF p x).1, (syF p x).2 * nI 3) else if k = 6 then ([70], nI 9) else pyF p x
def ptF (p : Int32) (k : Nat) (x : Int32) : List Nat × Int32 := (11 :: (ywF p k x).1, (ywF p k x).2 * nI 2)
def wtF (p : Int32) (k : Nat) (x : Int32) : List Nat × Int32 := (30 :: (ptF p k x).1, -(ptF p k x).2)
def trF (p m : Int32) (k : Nat) (x : Int32) : List Nat × Int32 := if k = 2 then wtF p k x else if k = 5 then (60 :: (wtF p k (x + nI 1)).1, (wtF p k (x + nI 1)).2) else if k = 6 then (71 :: (ptF p k x).1, (ptF p k x).2 + m) else ptF p k x
def paF (p m : Int32) (k : Nat) (x : Int32) : List Nat × Int32 := (12 :: (trF p m k x).1, (trF p m k x).2 - m)
def agF (p m : Int32) (k : Nat) (x : Int32) : List Nat × Int32 := if k = 3 then (40 :: (paF p m k (x / nI 2)).1, (paF p m k (x / nI 2)).2) else if k = 4 then (51 :: (paF p m k x).1, (paF p m k x).2 ^^^ p) else paF p m k x
def k_r0 (τ τ' : Sg) : Prop := True
variable {p k : Nat} {m x : Int32}
theorem T_plainYawns (h0 : R31 τ) (h : K (pyF (nI p) x).2 (aRR τ (pyF (nI p) x).1)) : CallI E shR (d + 1) mX11_plainYawns [.ref 0, .int (nI p), .int x] τ K := vc_Md_plainYawns (T_begins h0 h)
theorem T_studentYawns (h0 : R31 τ) (h : K (syF (nI p) x).2 (aRR τ (syF (nI p) x).1)) : CallI E shR (d + 2) mX11_studentYawns [.ref 0, .int (nI p), .int x] τ K := vc_Md_studentYawns (T_begins h0 (T_plainYawns h0.ad1 h))
theorem T_yawns (h0 : R31 τ) (hp : p < 6) (hk : k < 7) (ek : τ 1 (10 + 32 * p + 0) = nI k) (h : K (ywF (nI p) k x).2 (aRR τ (ywF (nI p) k x).1)) : CallI E shR (d + 3) mX11_yawns [.ref 0, .int (nI p), .int x] τ K := by
  refine vc_Md_yawns (T_Mof hp (by decide) ?_)
  rw [ek]
  unfold ywF at h
  have cb : ∀ {j : Nat}, j < 100 → nI k = nI j → k = j := fun hj c => (nI_eq (by omega) (by omega)).mp c
  refine ⟨fun c => ?_, fun c => ?_, fun c => ?_, fun n1 n2 n3 => ?_⟩
  · have e := cb (by decide) c
    subst e
    simp only [Nat.reduceEqDiff, if_false, if_true] at h
    exact T_studentYawns h0 h
  · have e := cb (by decide) c
    subst e
    simp only [Nat.reduceEqDiff, if_false, if_true] at h
    exact T_begins h0 (T_studentYawns h0.ad1 h)
  · have e := cb (by decide) c
    subst e
    simp only [Nat.reduceEqDiff, if_false, if_true] at h
    exact T_begins h0 h
  · rw [if_neg (fun e => n1 (by rw [e])), if_neg (fun e => n2 (by rw [e])), if_neg (fun e => n3 (by rw [e]))] at h
    exact T_plainYawns h0 h
theorem T_plainTrades (h0 : R31 τ) (hp : p < 6) (hk : k < 7) (ek : τ 1 (10 + 32 * p + 0) = nI k) (h : K (ptF (nI p) k x).2 (aRR τ (ptF (nI p) k x).1)) : CallI E shR (d + 4) mX11_plainTrades [.ref 0, .int (nI p), .int x] τ K :=
  vc_Md_plainTrades (T_begins h0 (T_yawns h0.ad1 hp hk (by rw [aR1_ne (by decide) (by decide)]; exact ek) h))
theorem T_widowTrades (h0 : R31 τ) (hp : p < 6) (hk : k < 7) (ek : τ 1 (10 + 32 * p + 0) = nI k) (h : K (wtF (nI p) k x).2 (aRR τ (wtF (nI p) k x).1)) : CallI E shR (d + 5) mX11_widowTrades [.ref 0, .int (nI p), .int x] τ K :=
  vc_Md_widowTrades (T_begins h0 (T_plainTrades h0.ad1 hp hk (by rw [aR1_ne (by decide) (by decide)]; exact ek) h))
end P47
