theorem k_lJ {own : String} {idx : Nat} {w : Cond} (i : Nat) (h : lw_tbl[i]? = some w) (g : goodWord w = true) : w ∈ k_gw := k_at i h g
section R3
variable {E : KE} {S : Shp} {M : KM} {d pc : Nat} {Lo : List (Option Value)} {st : List Value} {σ : Sg} {Q : Option Value → Sg → Prop}
theorem Call.mono {M' : KM} {vs : List Value} {Q1 Q2 : Option Value → Sg → Prop} (h : Call E S d M' vs σ Q1) (hq : ∀ v σ', Q1 v σ' → Q2 v σ') : Call E S d M' vs σ Q2 := by
  intro p e ha hc hk s m args below hf happ hP hK
  obtain ⟨n, o, h1, h2, h3, ⟨⟨v, σ', g1, g2, g3⟩, g4⟩, h5⟩ := h p e ha hc hk s m args below hf happ hP hK
  exact ⟨n, o, h1, h2, h3, ⟨⟨v, σ', g1, hq _ _ g2, g3⟩, g4⟩, h5⟩
theorem Call.deep {M' : KM} {vs : List Value} {d' : Nat} (h : Call E S d M' vs σ Q) (hd : d ≤ d') : Call E S d' M' vs σ Q := by
  intro p e ha hc hk s m args below hf happ hP hK
  obtain ⟨a1, a2, a3, a4, a5, a6, a7, a8⟩ := (Spec.appliesLoose_iff hf).mp happ
  refine h p e ha hc hk s m args below hf ((Spec.appliesLoose_iff hf).mpr ⟨a1, a2, a3, a4, a5, a6, ?_, a8⟩) hP hK
  have e1 : (k_rm d).frames ≤ (k_rm d').frames := Nat.succ_le_succ hd
  have e2 : (k_rm d).locals ≤ (k_rm d').locals := by show 40 * (d + 1) + 20 ≤ 40 * (d' + 1) + 20; omega
  have a7 : s.hasRoom e.platform (k_rm d') = true := a7
  show s.hasRoom e.platform (k_rm d) = true
  have e3 : (k_rm d).cells = 0 := rfl
  have e4 : (k_rm d').cells = 0 := rfl
  have e5 : (k_rm d).slots = 0 := rfl
  have e6 : (k_rm d').slots = 0 := rfl
  generalize k_rm d = r at *
  generalize k_rm d' = r' at *
  simp only [State.hasRoom, Bool.and_eq_true, decide_eq_true_eq] at a7 ⊢
  obtain ⟨⟨⟨⟨y, a, b, c, d, e⟩, f⟩, g⟩, i⟩ := a7
  exact ⟨⟨⟨⟨by omega, by omega, by omega, by omega, by omega, e⟩, by omega⟩, by omega⟩, i⟩
/-- what a call answers: an int, nothing, a cell -/
def k_qi (K : Int32 → Sg → Prop) : Option Value → Sg → Prop := fun v σ' => ∃ y, v = some (.int y) ∧ K y σ'
def k_qn (K : Sg → Prop) : Option Value → Sg → Prop := fun v σ' => v = none ∧ K σ'
def k_qj (K : Nat → Sg → Prop) : Option Value → Sg → Prop := fun v σ' => ∃ j, v = some (.ref j) ∧ K j σ'
def CallI (E : KE) (S : Shp) (d : Nat) (M : KM) (vs : List Value) (σ : Sg) (K : Int32 → Sg → Prop) : Prop := Call E S d M vs σ (k_qi K)
def CallN (E : KE) (S : Shp) (d : Nat) (M : KM) (vs : List Value) (σ : Sg) (K : Sg → Prop) : Prop := Call E S d M vs σ (k_qn K)
def CallJ (E : KE) (S : Shp) (d : Nat) (M : KM) (vs : List Value) (σ : Sg) (K : Nat → Sg → Prop) : Prop := Call E S d M vs σ (k_qj K)
theorem CallI.mono {M' : KM} {vs : List Value} {K1 K2 : Int32 → Sg → Prop} (h : CallI E S d M' vs σ K1) (hq : ∀ v σ', K1 v σ' → K2 v σ') : CallI E S d M' vs σ K2 := Call.mono h fun _ _ ⟨y, e, k⟩ => ⟨y, e, hq _ _ k⟩
theorem CallN.mono {M' : KM} {vs : List Value} {K1 K2 : Sg → Prop} (h : CallN E S d M' vs σ K1) (hq : ∀ σ', K1 σ' → K2 σ') : CallN E S d M' vs σ K2 := Call.mono h fun _ _ ⟨e, k⟩ => ⟨e, hq _ k⟩
theorem CallJ.mono {M' : KM} {vs : List Value} {K1 K2 : Nat → Sg → Prop} (h : CallJ E S d M' vs σ K1) (hq : ∀ v σ', K1 v σ' → K2 v σ') : CallJ E S d M' vs σ K2 := Call.mono h fun _ _ ⟨y, e, k⟩ => ⟨y, e, hq _ _ k⟩
theorem CallI.deep {M' : KM} {vs : List Value} {K : Int32 → Sg → Prop} {d' : Nat} (h : CallI E S d M' vs σ K) (hd : d ≤ d') : CallI E S d' M' vs σ K := Call.deep h hd
theorem CallN.deep {M' : KM} {vs : List Value} {K : Sg → Prop} {d' : Nat} (h : CallN E S d M' vs σ K) (hd : d ≤ d') : CallN E S d' M' vs σ K := Call.deep h hd
theorem CallJ.deep {M' : KM} {vs : List Value} {K : Nat → Sg → Prop} {d' : Nat} (h : CallJ E S d M' vs σ K) (hd : d ≤ d') : CallJ E S d' M' vs σ K := Call.deep h hd
variable {M' : KM} {b ci idx n : Nat} {fs : List (Option Nat)} {vs rest : List Value} {T : u_T} {N : Nat}
theorem wp_callVI (hd : decode M.2.1 pc = .ok (.invokevirtual idx, 3)) (hm : k_mV M' n) (hl : Cond.methodLink M.1.cls idx M'.1 ∈ k_gw) (hs : S[b]? = some (.inr (ci, fs))) (hc : vwCl[ci]? = some (M'.1.cls, T, N)) (hn : vs.length = n) (hst : vs.reverse ++ .ref b :: rest = st) (hw : (rest.map fun v => v.category).sum ≤ 8)
    (h : CallI E S d M' (.ref b :: vs) σ (fun y σ' => WP E S M (d + 1) (pc + 3) Lo (.int y :: rest) σ' Q)) : WP E S M (d + 1) pc Lo st σ Q :=
  wp_callV hd hm hl hs hc hn hst hw (Call.mono h fun v σ' ⟨y, e, k⟩ => by subst e; exact k)
theorem wp_callVN (hd : decode M.2.1 pc = .ok (.invokevirtual idx, 3)) (hm : k_mV M' n) (hl : Cond.methodLink M.1.cls idx M'.1 ∈ k_gw) (hs : S[b]? = some (.inr (ci, fs))) (hc : vwCl[ci]? = some (M'.1.cls, T, N)) (hn : vs.length = n) (hst : vs.reverse ++ .ref b :: rest = st) (hw : (rest.map fun v => v.category).sum ≤ 8)
    (h : CallN E S d M' (.ref b :: vs) σ (fun σ' => WP E S M (d + 1) (pc + 3) Lo rest σ' Q)) : WP E S M (d + 1) pc Lo st σ Q :=
  wp_callV hd hm hl hs hc hn hst hw (Call.mono h fun v σ' ⟨e, k⟩ => by subst e; exact k)
theorem wp_callVJ (hd : decode M.2.1 pc = .ok (.invokevirtual idx, 3)) (hm : k_mV M' n) (hl : Cond.methodLink M.1.cls idx M'.1 ∈ k_gw) (hs : S[b]? = some (.inr (ci, fs))) (hc : vwCl[ci]? = some (M'.1.cls, T, N)) (hn : vs.length = n) (hst : vs.reverse ++ .ref b :: rest = st) (hw : (rest.map fun v => v.category).sum ≤ 8)
    (h : CallJ E S d M' (.ref b :: vs) σ (fun y σ' => WP E S M (d + 1) (pc + 3) Lo (.ref y :: rest) σ' Q)) : WP E S M (d + 1) pc Lo st σ Q :=
  wp_callV hd hm hl hs hc hn hst hw (Call.mono h fun v σ' ⟨y, e, k⟩ => by subst e; exact k)
theorem wp_callSI (hd : decode M.2.1 pc = .ok (.invokestatic idx, 3)) (hm : k_mS M' n) (hl : Cond.methodLink M.1.cls idx M'.1 ∈ k_gw) (hn : vs.length = n) (hst : vs.reverse ++ rest = st) (hw : (rest.map fun v => v.category).sum ≤ 8)
    (h : CallI E S d M' vs σ (fun y σ' => WP E S M (d + 1) (pc + 3) Lo (.int y :: rest) σ' Q)) : WP E S M (d + 1) pc Lo st σ Q :=
  wp_callS hd hm hl hn hst hw (Call.mono h fun v σ' ⟨y, e, k⟩ => by subst e; exact k)
theorem wp_callSN (hd : decode M.2.1 pc = .ok (.invokestatic idx, 3)) (hm : k_mS M' n) (hl : Cond.methodLink M.1.cls idx M'.1 ∈ k_gw) (hn : vs.length = n) (hst : vs.reverse ++ rest = st) (hw : (rest.map fun v => v.category).sum ≤ 8)
    (h : CallN E S d M' vs σ (fun σ' => WP E S M (d + 1) (pc + 3) Lo rest σ' Q)) : WP E S M (d + 1) pc Lo st σ Q :=
  wp_callS hd hm hl hn hst hw (Call.mono h fun v σ' ⟨e, k⟩ => by subst e; exact k)
/-- the state gets a name -/
theorem wp_nm (h : ∀ τ, τ = σ → WP E S M d pc Lo st τ Q) : WP E S M d pc Lo st σ Q := h _ rfl
/-- fewer locals known -/
def k_mask : List Bool → List (Option Value) → List (Option Value)
  | b :: bs, o :: l => (if b = true then o else none) :: k_mask bs l
  | _, _ => []
theorem k_mask_get : ∀ (bs : List Bool) (l : List (Option Value)) (i : Nat) (v : Value), (k_mask bs l)[i]? = some (some v) → l[i]? = some (some v)
  | [], l, i, v, h => by simp [k_mask] at h
  | b :: bs, [], i, v, h => by simp [k_mask] at h
  | b :: bs, o :: l, 0, v, h => by
    simp only [k_mask, List.getElem?_cons_zero] at h ⊢
    split at h
    · exact h
    · cases h
  | b :: bs, o :: l, i + 1, v, h => by
    simp only [k_mask, List.getElem?_cons_succ] at h ⊢
    exact k_mask_get bs l i v h
theorem wp_mask (bs : List Bool) (h : WP E S M d pc (k_mask bs Lo) st σ Q) : WP E S M d pc Lo st σ Q := by
  intro p e s m args below meth c H locs ls F hP hS hl
  refine h p e s m args below meth c H locs ls F hP hS ⟨hl.1, hl.2.1, fun q hq => ?_⟩
  obtain ⟨i, w⟩ := q
  obtain ⟨v, h1, h2⟩ := k_as_mem.mp hq
  exact hl.2.2 _ (k_as_mem.mpr ⟨v, k_mask_get _ _ _ _ h1, h2⟩)
def k_LM (own : String) (idx : Nat) (y : MethodName) (b : ByteArray) : Prop := Cond.methodLink own idx y ∈ k_gw ∧ Cond.static y ∈ k_gw ∧ Cond.initialized "java/lang/Math" ∈ k_gw ∧ Cond.code y b 2 (some .int) ∈ k_gw
theorem wp_mmax {x y : Int32} (hd : decode M.2.1 pc = .ok (.invokestatic idx, 3)) (hL : k_LM M.1.cls idx Lib.Math.max.name Lib.Math.max.code) (hst : (st.map fun v => v.category).sum ≤ 8) (h : WP E S M d (pc + 3) Lo (.int (if x < y then y else x) :: st) σ Q) : WP E S M d pc Lo (.int y :: .int x :: st) σ Q := by
  intro p e s m args below meth c H locs ls F hP hS hl
  exact va_mmax F.1 F.2.1 (F.2.2.1.trans hl.1.symm) F.2.2.2.2.2.1 (k_Alike F hL.1) (k_Alike F hL.2.1) (k_Alike F hL.2.2.1) (k_Alike F hL.2.2.2) (Nat.succ_le_succ (Nat.zero_le _)) (by rw [k_cats]; show _ ≤ 40 * (d + 1) + 20; omega) (Nat.zero_le _) (Nat.zero_le _) hd (h p e s m args below meth c H locs ls F hP hS hl)
theorem wp_mmin {x y : Int32} (hd : decode M.2.1 pc = .ok (.invokestatic idx, 3)) (hL : k_LM M.1.cls idx Lib.Math.min.name Lib.Math.min.code) (hst : (st.map fun v => v.category).sum ≤ 8) (h : WP E S M d (pc + 3) Lo (.int (if y < x then y else x) :: st) σ Q) : WP E S M d pc Lo (.int y :: .int x :: st) σ Q := by
  intro p e s m args below meth c H locs ls F hP hS hl
  exact va_mmin F.1 F.2.1 (F.2.2.1.trans hl.1.symm) F.2.2.2.2.2.1 (k_Alike F hL.1) (k_Alike F hL.2.1) (k_Alike F hL.2.2.1) (k_Alike F hL.2.2.2) (Nat.succ_le_succ (Nat.zero_le _)) (by rw [k_cats]; show _ ≤ 40 * (d + 1) + 20; omega) (Nat.zero_le _) (Nat.zero_le _) hd (h p e s m args below meth c H locs ls F hP hS hl)
theorem k_bool {v : Int32} (h : v = 0 ∨ v = 1) : narrow .boolean (.int v) = .int v := by rcases h with rfl | rfl <;> rfl
theorem k_boolf {v : Int32} (h : v = 0 ∨ v = 1) : fits .boolean (.int v) = true := by rcases h with rfl | rfl <;> rfl
end R3
theorem lmax {own : String} {idx : Nat} (h : Cond.methodLink own idx yJ9_max_7cf53 ∈ k_gw) : k_LM own idx Lib.Math.max.name Lib.Math.max.code := ⟨h, (k_at 485 (by decide +kernel) rfl), (k_at 85 (by decide +kernel) rfl), (k_at 486 (by decide +kernel) rfl)⟩
theorem lmin {own : String} {idx : Nat} (h : Cond.methodLink own idx yJ9_min_7cf53 ∈ k_gw) : k_LM own idx Lib.Math.min.name Lib.Math.min.code := ⟨h, (k_at 482 (by decide +kernel) rfl), (k_at 85 (by decide +kernel) rfl), (k_at 483 (by decide +kernel) rfl)⟩
