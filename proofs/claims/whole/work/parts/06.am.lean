/-! A WORLD OF CELLS THAT NEVER GROWS: its cells by number, what each holds an int; a method's run over it (WP), a call (Call). -/
abbrev Sg : Type := Nat → Nat → Int32
abbrev Shp : Type := List (Nat ⊕ (Nat × List (Option Nat)))
abbrev KE : Type := Launch × va_G × (Nat → Nat) × ClassId
def k_cv (ad : Nat → Nat) (v : Value) : Value := match v with
  | .ref j => .ref (ad j)
  | v => v
theorem k_cv_cat (ad : Nat → Nat) (v : Value) : (k_cv ad v).category = v.category := by cases v <;> rfl
theorem k_cats (ad : Nat → Nat) (st : List Value) : ((st.map (k_cv ad)).map fun v => v.category).sum = (st.map fun v => v.category).sum := by
  rw [List.map_map]
  congr 1
  apply List.map_congr_left
  intro v _
  exact k_cv_cat ad v
def k_fv (ad : Nat → Nat) (row : Nat → Int32) : Nat → List (Option Nat) → List Value
  | _, [] => []
  | k, none :: r => .int (row k) :: k_fv ad row (k + 1) r
  | k, some j :: r => .ref (ad j) :: k_fv ad row (k + 1) r
def k_f1 (ad : Nat → Nat) (row : Nat → Int32) (k : Nat) (o : Option Nat) : Value := match o with
  | none => .int (row k)
  | some j => .ref (ad j)
theorem k_fv_get (ad : Nat → Nat) (row : Nat → Int32) : ∀ (fs : List (Option Nat)) (s k : Nat), (k_fv ad row s fs)[k]? = fs[k]?.map (k_f1 ad row (s + k))
  | [], s, k => by simp [k_fv]
  | o :: r, s, 0 => by cases o <;> simp [k_fv, k_f1]
  | o :: r, s, k + 1 => by
    have h := k_fv_get ad row r (s + 1) k
    rw [show s + 1 + k = s + (k + 1) by omega] at h
    cases o <;> simpa [k_fv] using h
theorem k_fv_len (ad : Nat → Nat) (row : Nat → Int32) : ∀ (fs : List (Option Nat)) (s : Nat), (k_fv ad row s fs).length = fs.length
  | [], s => rfl
  | none :: r, s => by simp [k_fv, k_fv_len ad row r]
  | some j :: r, s => by simp [k_fv, k_fv_len ad row r]
theorem k_fv_set {ad : Nat → Nat} {row : Nat → Int32} {fs : List (Option Nat)} {k : Nat} {v : Int32} (hk : fs[k]? = some none) : (k_fv ad row 0 fs).set k (.int v) = k_fv ad (upd row k v) 0 fs := by
  have hl := (List.getElem?_eq_some_iff.mp hk).1
  apply List.ext_getElem?
  intro j
  rw [List.getElem?_set, k_fv_get, k_fv_get, k_fv_len, Nat.zero_add]
  by_cases h : k = j
  · subst h
    rw [if_pos rfl, if_pos hl, hk]
    simp [k_f1, upd]
  · rw [if_neg h]
    cases fs[j]? with
    | none => rfl
    | some o =>
      cases o with
      | none => simp [k_f1, upd, Ne.symm h]
      | some t => rfl
def k_en (ad : Nat → Nat) (cI : ClassId) (row : Nat → Int32) (c : Nat ⊕ (Nat × List (Option Nat))) : va_E := match c with
  | .inl n => .inl (cI, n, .inl row)
  | .inr o => .inr (o.1, k_fv ad row 0 o.2)
def k_w (E : KE) (S : Shp) (σ : Sg) : va_W := S.zipIdx.map (fun q => (E.2.2.1 q.2, k_en E.2.2.1 E.2.2.2 (σ q.2) q.1))
theorem k_w_get (E : KE) (S : Shp) (σ : Sg) (i : Nat) : (k_w E S σ)[i]? = S[i]?.map (fun c => (E.2.2.1 i, k_en E.2.2.1 E.2.2.2 (σ i) c)) := by
  simp [k_w, List.getElem?_zipIdx, Function.comp_def]
def k_put (σ : Sg) (i : Nat) (row : Nat → Int32) : Sg := fun j => if j = i then row else σ j
theorem k_w_set {E : KE} {S : Shp} {σ : Sg} {i : Nat} {c : Nat ⊕ (Nat × List (Option Nat))} (hi : S[i]? = some c) (row : Nat → Int32) : (k_w E S σ).set i (E.2.2.1 i, k_en E.2.2.1 E.2.2.2 row c) = k_w E S (k_put σ i row) := by
  have hl : i < (k_w E S σ).length := by
    have h1 := (List.getElem?_eq_some_iff.mp hi).1
    simpa [k_w] using h1
  apply List.ext_getElem?
  intro j
  rw [List.getElem?_set, k_w_get, k_w_get]
  by_cases h : i = j
  · subst h
    rw [if_pos rfl, if_pos hl, hi]
    simp [k_put]
  · rw [if_neg h]
    simp [k_put, Ne.symm h]
theorem k_wD {A : Nat → Prop} {E : KE} {S : Shp} {σ τ : Sg} (h : va_D A (k_w E S σ)) : va_D A (k_w E S τ) := by
  have key : ∀ (k : Nat) (q : Nat × va_E), (k_w E S τ)[k]? = some q → ∃ q0, (k_w E S σ)[k]? = some q0 ∧ q0.1 = q.1 := by
    intro k q hk
    rw [k_w_get] at hk
    cases hs : S[k]? with
    | none => rw [hs] at hk; cases hk
    | some c =>
      rw [hs] at hk
      cases hk
      exact ⟨(E.2.2.1 k, k_en E.2.2.1 E.2.2.2 (σ k) c), by rw [k_w_get, hs]; rfl, rfl⟩
  refine ⟨fun i j x y hi hj hxy => ?_, fun k q hk => ?_⟩
  · obtain ⟨x0, h1, h2⟩ := key i x hi
    obtain ⟨y0, h3, h4⟩ := key j y hj
    exact h.1 i j x0 y0 h1 h3 (h2.trans (hxy.trans h4.symm))
  · obtain ⟨q0, h1, h2⟩ := key k q hk
    rw [← h2]
    exact h.2 k q0 h1
def k_A (E : KE) (S : Shp) : Nat → Prop := fun q => ∃ i, i < S.length ∧ q = E.2.2.1 i
/-- the three tables that nobody writes -/
def k_tab (k : Nat) : List Int32 := match k with
  | 0 => [0, 0, 0, 0, 1, 2, 0]
  | 1 => [10, 11, 12, 13, 20, 0, 0, 21, 0, 30, 0, 0, 0, 0, 40, 0, 50, 0, 51, 0, 0, 60, 0, 0, 70, 71, 0, 0]
  | _ => [100, 119, 104, 97, 116, 109]
def k_tv (k j : Nat) : Int32 := (k_tab k).getD j 0
def k_stat (ad : Nat → Nat) (A : Nat → Prop) (U : State) (H : Heap) : Prop :=
  (va_Z "SoldDays$Kinds" "ABOVE" "[I" (.ref (ad 1000)) A U H ∧ va_T .int (ad 1000) 7 (fun j => .int (k_tv 0 j)) A U H) ∧
  (va_Z "SoldDays$Kinds" "BODIES" "[I" (.ref (ad 1001)) A U H ∧ va_T .int (ad 1001) 28 (fun j => .int (k_tv 1 j)) A U H) ∧
  (va_Z "SoldDays$Reader" "NAMES" "[C" (.ref (ad 1002)) A U H ∧ va_T .char (ad 1002) 6 (fun j => .int (k_tv 2 j)) A U H)
theorem k_stat.moved {ad : Nat → Nat} {A : Nat → Prop} {u U : State} {H : Heap} (hvm : u.vm.Alike U.vm) (h : k_stat ad A u H) : k_stat ad A U H :=
  ⟨⟨h.1.1.moved hvm, h.1.2.moved hvm⟩, ⟨h.2.1.1.moved hvm, h.2.1.2.moved hvm⟩, ⟨h.2.2.1.moved hvm, h.2.2.2.moved hvm⟩⟩
theorem k_stat.kept {ad : Nat → Nat} {A : Nat → Prop} {U : State} {H H1 : Heap} (h : k_stat ad A U H) (hq : ∀ a : Nat, a < H.size → ¬ A a → H1[a]? = H[a]?) : k_stat ad A U H1 :=
  ⟨⟨h.1.1.kept hq, h.1.2.kept hq⟩, ⟨h.2.1.1.kept hq, h.2.1.2.kept hq⟩, ⟨h.2.2.1.kept hq, h.2.2.2.kept hq⟩⟩
theorem k_stat.narrow {ad : Nat → Nat} {A B : Nat → Prop} {U : State} {H : Heap} (h : k_stat ad A U H) (hAB : ∀ q, B q → A q) : k_stat ad B U H :=
  ⟨⟨h.1.1.narrow hAB, h.1.2.narrow hAB⟩, ⟨h.2.1.1.narrow hAB, h.2.1.2.narrow hAB⟩, ⟨h.2.2.1.narrow hAB, h.2.2.2.narrow hAB⟩⟩
def k_B (E : KE) (S : Shp) (σ : Sg) (U : State) : Prop :=
  va_P E.2.1 vwCl (k_w E S σ) U.heap ∧ va_K E.2.1 vwCl [(E.2.2.2, .int)] U ∧ va_D (k_A E S) (k_w E S σ) ∧ k_stat E.2.2.1 (k_A E S) U U.heap
def k_gw : List Cond := lw_tbl.filter goodWord
theorem k_in {w : Cond} (h : w ∈ lw_tbl) (g : goodWord w = true) : w ∈ k_gw := List.mem_filter.mpr ⟨h, g⟩
theorem k_at (i : Nat) {w : Cond} (h : lw_tbl[i]? = some w) (g : goodWord w = true) : w ∈ k_gw := k_in (List.mem_of_getElem? h) g
abbrev k_ws (M : KM) : List Cond := .code M.1 M.2.1 M.2.2.1 M.2.2.2 :: k_gw
def k_rm (d : Nat) : Room := { frames := d + 1, cells := 0, slots := 0, locals := 40 * (d + 1) + 20 }
def k_Pc (E : KE) (S : Shp) (vs : List Value) (σ : Sg) : Array Value → State → Prop := va_Pc (vs.map (k_cv E.2.2.1)) (k_B E S σ)
def k_Qc (E : KE) (S : Shp) (Q : Option Value → Sg → Prop) : Array Value → State → Outcome → State → Prop := fun _ st oc t =>
  (∃ (v : Option Value) (σ' : Sg), oc = .returned (v.map (k_cv E.2.2.1)) ∧ Q v σ' ∧ k_B E S σ' t) ∧ va_F (k_A E S) st t
def Call (E : KE) (S : Shp) (d : Nat) (M : KM) (vs : List Value) (σ : Sg) (Q : Option Value → Sg → Prop) : Prop :=
  Met E.1 M.1 (k_ws M) (k_rm d) (k_Pc E S vs σ) (k_Qc E S Q) 0 0 (k_A E S)
def k_F (E : KE) (S : Shp) (M : KM) (p : Program) (s : State) (m : MethodId) (args : Array Value) (meth : Method) (c : Code) : Prop :=
  p.tables.exec = Jvm.exec ∧ c.code = M.2.1 ∧ c.maxLocals = M.2.2.1 ∧ meth.sig.returnType = M.2.2.2 ∧ meth.locks = false ∧ s.vm.findClass M.1.cls = some m.cls ∧ (∀ w ∈ k_ws M, w.before args s = true) ∧
  va_K E.2.1 vwCl [(E.2.2.2, .int)] s ∧ va_D (k_A E S) (k_w E S (fun _ _ => 0)) ∧ k_stat E.2.2.1 (k_A E S) s s.heap
/-- the locals: those that are known -/
def k_as (ad : Nat → Nat) (Lo : List (Option Value)) : List (Nat × Value) := Lo.zipIdx.filterMap (fun q => q.1.map (fun v => (q.2, k_cv ad v)))
theorem k_as_mem {ad : Nat → Nat} {Lo : List (Option Value)} {i : Nat} {w : Value} : (i, w) ∈ k_as ad Lo ↔ ∃ v, Lo[i]? = some (some v) ∧ w = k_cv ad v := by
  simp only [k_as, List.mem_filterMap, Option.map_eq_some_iff]
  constructor
  · rintro ⟨⟨o, j⟩, h1, v, h2, h3⟩
    cases h3
    rw [List.mem_zipIdx_iff_getElem?] at h1
    dsimp only at h1 h2
    exact ⟨v, by rw [h1, h2], rfl⟩
  · rintro ⟨v, h1, rfl⟩
    exact ⟨(some v, i), by rw [List.mem_zipIdx_iff_getElem?]; exact h1, v, rfl, rfl⟩
def WP (E : KE) (S : Shp) (M : KM) (d : Nat) (pc : Nat) (Lo : List (Option Value)) (st : List Value) (σ : Sg) (Q : Option Value → Sg → Prop) : Prop :=
  ∀ (p : Program) (e : Env) (s : State) (m : MethodId) (args : Array Value) (below : List Frame) (meth : Method) (c : Code) (H : Heap) (locs : List Loc) (ls : Array Slot),
    k_F E S M p s m args meth c → va_P E.2.1 vwCl (k_w E S σ) H → va_S (k_A E S) s.heap H locs → lv_has ls M.2.2.1 (k_as E.2.2.1 Lo) →
    W p E.1 e (k_rm d) s m args below meth c H locs 0 0 (MQ below (k_Qc E S Q) args s 0 0 (k_A E S)) (F0 m pc ls (st.map (k_cv E.2.2.1)))
def k_ex : List Value → List (Option Value)
  | [] => []
  | .long x :: r => some (.long x) :: none :: k_ex r
  | .double x :: r => some (.double x) :: none :: k_ex r
  | v :: r => some v :: k_ex r
def k_lo (n : Nat) (vs : List Value) : List (Option Value) := k_ex vs ++ List.replicate (n - (k_ex vs).length) none
theorem k_ex_args (ad : Nat → Nat) : ∀ (vs : List Value) (s i : Nat) (v : Value), (k_ex vs)[i]? = some (some v) → (s + i, k_cv ad v) ∈ lv_args s (vs.map (k_cv ad))
  | [], s, i, v, h => by simp [k_ex] at h
  | w :: r, s, i, v, h => by
    have ih := k_ex_args ad r
    have one : k_ex (w :: r) = some w :: k_ex r → w.category = 1 → (s + i, k_cv ad v) ∈ lv_args s ((w :: r).map (k_cv ad)) := by
      intro e hc
      rw [e] at h
      have hc2 : ¬ (k_cv ad w).category = 2 := by rw [k_cv_cat, hc]; decide
      show _ ∈ (s, k_cv ad w) :: lv_args (if (k_cv ad w).category = 2 then s + 2 else s + 1) (r.map (k_cv ad))
      rw [if_neg hc2]
      cases i with
      | zero => cases h; exact List.mem_cons_self
      | succ i =>
        have := ih (s + 1) i v h
        rw [show s + 1 + i = s + (i + 1) by omega] at this
        exact List.mem_cons_of_mem _ this
    have two : k_ex (w :: r) = some w :: none :: k_ex r → w.category = 2 → (s + i, k_cv ad v) ∈ lv_args s ((w :: r).map (k_cv ad)) := by
      intro e hc
      rw [e] at h
      have hc2 : (k_cv ad w).category = 2 := by rw [k_cv_cat, hc]
      show _ ∈ (s, k_cv ad w) :: lv_args (if (k_cv ad w).category = 2 then s + 2 else s + 1) (r.map (k_cv ad))
      rw [if_pos hc2]
      match i, h with
      | 0, h => cases h; exact List.mem_cons_self
      | 1, h => cases h
      | i + 2, h =>
        have := ih (s + 2) i v h
        rw [show s + 2 + i = s + (i + 2) by omega] at this
        exact List.mem_cons_of_mem _ this
    cases w with
    | long x => exact two rfl rfl
    | double x => exact two rfl rfl
    | int x => exact one rfl rfl
    | float x => exact one rfl rfl
    | null => exact one rfl rfl
    | ref x => exact one rfl rfl
    | retAddr x => exact one rfl rfl
theorem k_sl_cons (x : Value) (l : List Value) : lg_sl (x :: l) = (if x.category = 2 then [.val x, .second] else [.val x]) ++ lg_sl l := by simp [lg_sl]
theorem k_ex_len (ad : Nat → Nat) : ∀ (vs : List Value), (lg_sl (vs.map (k_cv ad))).length = (k_ex vs).length
  | [] => rfl
  | w :: r => by
    have ih := k_ex_len ad r
    rw [List.map_cons, k_sl_cons, List.length_append, ih]
    cases w <;> simp [k_cv, k_ex, Value.category] <;> omega
theorem wp_enter {E : KE} {S : Shp} {M : KM} {d : Nat} {vs : List Value} {σ : Sg} {Q : Option Value → Sg → Prop} {Lo : List (Option Value)} (hp : plainName M.1.cls = true) (hn : (k_ex vs).length ≤ M.2.2.1) (hLo : k_lo M.2.2.1 vs = Lo) (h : WP E S M d 0 Lo [] σ Q) : Call E S d M vs σ Q := by
  refine Met.ofW (cc := M.2.1) (maxL := M.2.2.1) (ret := M.2.2.2) hp rfl ?_
  intro p e s m args below meth c s₁ B hml hv
  obtain ⟨rfl, hP, hK, hD, hSt⟩ := hv
  rw [lg_entry_eq]
  have hl := lv_entry (vs.map (k_cv E.2.2.1)) (n := M.2.2.1) (by rw [k_ex_len]; exact hn)
  refine h p e s m _ below meth c s.heap [] _ ⟨B.exec, B.bytes, hml, B.returns, B.notSynchronized, findClass_of_methodNamed B.named, atoms_spec B.pre, hK, k_wD hD, hSt⟩ hP va_S.rf ⟨hl.1, hl.2.1, fun q hq => ?_⟩
  obtain ⟨i, w⟩ := q
  obtain ⟨v, h1, h2⟩ := k_as_mem.mp hq
  subst hLo
  subst h2
  have h3 : (k_ex vs)[i]? = some (some v) := by
    by_cases hi : i < (k_ex vs).length
    · rwa [k_lo, List.getElem?_append_left hi] at h1
    · rw [k_lo, List.getElem?_append_right (by omega), List.getElem?_replicate] at h1
      split at h1 <;> cases h1
  have h4 := k_ex_args E.2.2.1 vs 0 i v h3
  rw [Nat.zero_add] at h4
  exact hl.2.2 _ h4
