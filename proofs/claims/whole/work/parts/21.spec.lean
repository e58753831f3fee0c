/-! WHAT THINGS ARE: functions of the system's cells, as numbers and rows; and how the reference's row says the same -/
/-- an int's natural -/
abbrev cl (x : Int32) : Nat := x.toNatClampNeg
def livesF (k m t w : Int32) : Int32 :=
  if k = nI 1 then (if w = m - m / nI 7 * nI 7 then nI 0 else t)
  else if k = nI 2 then (if t ≤ nI 1 then t else t + nI 1)
  else if k = nI 3 then (t + nI 1) / nI 2
  else if k = nI 4 then (if w = (m + nI 1) - (m + nI 1) / nI 7 * nI 7 then (if w = m - m / nI 7 * nI 7 then nI 0 else t) * nI 2 else (if w = m - m / nI 7 * nI 7 then nI 0 else t))
  else if k = nI 5 then (if w ≤ nI 4 then (if t ≤ nI 1 then t else t + nI 1) else (if t ≤ nI 1 then t else t + nI 1) + m)
  else if k = nI 6 then nI 1
  else t
/-- steps: an operand, a sign between two -/
def oprF (s a b c : Int32) : Int32 := if s = nI 10000 then a else if s = nI 10001 then b else if s = nI 10002 then c else s
def i1 (p : Bool) : Int32 := if p then nI 1 else nI 0
def joinF (s x y : Int32) : Int32 :=
  if s = nI 37 then (if y = 0 then nI 0 else x - x / y * y)
  else if s = nI 38 then i1 (decide (¬ x = 0) && decide (¬ y = 0))
  else if s = nI 42 then x * y
  else if s = nI 43 then x + y
  else if s = nI 45 then x - y
  else if s = nI 47 then (if y = 0 then nI 0 else x / y)
  else if s = nI 60 then i1 (decide (x < y))
  else if s = nI 61 then i1 (decide (x = y))
  else if s = nI 62 then i1 (decide (y < x))
  else if s = nI 124 then i1 (decide (¬ x = 0) || decide (¬ y = 0))
  else nI 0
/-- a run of steps over a pile: how many lie there, and what -/
def evP (f : Nat → Int32) (a b c : Int32) : Nat → Nat × (Nat → Int32)
  | 0 => (0, fun _ => 0)
  | k + 1 =>
    let n := (evP f a b c k).1
    let s := (evP f a b c k).2
    if f k < nI 20000 then (n + 1, upd s n (oprF (f k) a b c))
    else if f k = nI 20033 then (n, upd s (n - 1) (if s (n - 1) = 0 then nI 1 else nI 0))
    else (n - 1, upd s (n - 2) (joinF (f k - nI 20000) (s (n - 2)) (s (n - 1))))
def tpP (f : Nat → Int32) : Nat → Nat
  | 0 => 0
  | k + 1 => if f k < nI 20000 then tpP f k + 1 else if f k = nI 20033 then tpP f k else tpP f k - 1
theorem evP_tp (f : Nat → Int32) (a b c : Int32) : ∀ k, (evP f a b c k).1 = tpP f k
  | 0 => rfl
  | k + 1 => by
    have h := evP_tp f a b c k
    simp only [evP, tpP]
    split
    · rw [h]
    · split
      · rw [h]
      · rw [h]
theorem tpP_le (f : Nat → Int32) : ∀ k, tpP f k ≤ k
  | 0 => Nat.le_refl _
  | k + 1 => by
    have h := tpP_le f k
    simp only [tpP]
    split
    · omega
    · split <;> omega
/-- the steps are such that the pile always bears them -/
def wfS (f : Nat → Int32) (m : Nat) : Prop := ∀ k, k < m → ¬ f k < nI 20000 → (f k = nI 20033 → 1 ≤ tpP f k) ∧ (¬ f k = nI 20033 → 2 ≤ tpP f k)
theorem wfS_1 {f : Nat → Int32} {m : Nat} (h : wfS f m) : ∀ k, k < m → 1 ≤ tpP f (k + 1) := by
  intro k hk
  simp only [tpP]
  split
  · omega
  · next h1 =>
    have := h k hk h1
    split
    · next h2 => exact this.1 h2
    · next h2 => have := this.2 h2; omega
/-- a step of the system's is the reference's act and number -/
def opsL : List Nat := [37, 38, 42, 43, 45, 47, 60, 61, 62, 124]
def encS (a w s : Int32) : Prop := (a = nI 1 ∧ w = s ∧ k_lt s 10000) ∨ (∃ j : Nat, j < 3 ∧ a = nI 2 ∧ w = nI j ∧ s = nI (10000 + j)) ∨ (a = nI 3 ∧ s = nI 20033) ∨ (∃ c : Nat, c ∈ opsL ∧ a = nI c ∧ s = nI (20000 + c))
def heldF (v m : Int32) : Int32 := if (if m < v then m else v) < nI 0 then nI 0 else (if m < v then m else v)
/-- what a use gives, by its steps -/
def gvF (u : Nat) (n : Int32) (f : Nat → Int32) (a b c : Int32) : Int32 :=
  if cl n = 0 then (if u = 0 then (if b ≤ nI 4 then nI 10 else nI 15) else nI 0)
  else heldF ((evP f a b c (cl n)).2 0) (if u = 0 then nI 999 else nI 99)
abbrev duF (σ : Sg) (a b c : Int32) : Int32 := gvF 1 (σ 17 1) (σ 18) a b c
abbrev prF (σ : Sg) (a b c : Int32) : Int32 := gvF 0 (σ 13 1) (σ 14) a b c
/-- the system's numbers -/
abbrev nP (σ : Sg) : Nat := cl (σ 2 5)
abbrev nQ (σ : Sg) : Nat := cl (σ 8 3)
abbrev nT (σ : Sg) : Nat := cl (σ 1 6)
def lvF (σ : Sg) (p d : Nat) : Int32 := livesF (σ 3 p) (σ 4 p) (σ 7 (p * 28 + d)) (nI (d % 7))
def priceF (σ : Sg) (p d : Nat) : Int32 := prF σ (nI d) (nI (d % 7)) (σ 7 (p * 28 + d))
/-- a text: its steps, as the reference's row has them from a place on -/
def RT (n : Int32) (f : Nat → Int32) (row : Nat → Int32) (at_ : Nat) : Prop :=
  k_lt n 61 ∧ row at_ = n ∧ (∀ j, j < cl n → encS (row (at_ + 1 + j)) (row (at_ + 61 + j)) (f j)) ∧ wfS f (cl n)
/-- the ranges of what the system holds -/
def IvA (σ : Sg) : Prop := k_lt (σ 2 5) 7 ∧ ∀ p, p < 6 → (k_lt (σ 3 p) 7 ∧ k_lt (σ 4 p) 10 ∧ k_lt (σ 5 p) 10000 ∧ k_lt (σ 6 p) 10000) ∧ ∀ d, d < 28 → k_lt (σ 7 (p * 28 + d)) 10
def IvQ (σ : Sg) : Prop := k_lt (σ 8 3) 9 ∧ ∀ k, k < nQ σ → k_lt (σ 9 k) (nP σ) ∧ k_lt (σ 10 k) (nP σ) ∧ k_lt (σ 11 k) 28
def IvC (σ : Sg) : Prop := k_lt (σ 1 6) 20000 ∧ k_lt (σ 1 7) 10000 ∧ k_lt (σ 1 8) 10000 ∧ k_lt (σ 1 9) 10000 ∧ k_lt (σ 1 10) 10000
/-- the reference's row -/
def RA (σ : Sg) (row : Nat → Int32) : Prop := row 2 = σ 2 5 ∧ ∀ p, p < 6 → (row (10 + 32 * p) = σ 3 p ∧ row (10 + 32 * p + 1) = σ 4 p ∧ row (10 + 32 * p + 2) = σ 5 p ∧ row (10 + 32 * p + 3) = σ 6 p) ∧ ∀ d, d < 28 → row (10 + 32 * p + (4 + d)) = σ 7 (p * 28 + d)
def RQ (σ : Sg) (row : Nat → Int32) : Prop := row 3 = σ 8 3 ∧ ∀ k, k < 8 → row (202 + 3 * k) = σ 9 k ∧ row (202 + 3 * k + 1) = σ 10 k ∧ row (202 + 3 * k + 2) = σ 11 k
def RC (σ : Sg) (row : Nat → Int32) : Prop := row 0 = σ 1 6 ∧ row 1 = σ 1 11 ∧ row 4 = σ 1 7 ∧ row 5 = σ 1 8 ∧ row 6 = σ 1 9 ∧ row 7 = σ 1 10
def RB (σ : Sg) (row : Nat → Int32) : Prop := (k_lt (σ 20 1) 61 ∧ row 8 = σ 20 1 ∧ ∀ j, j < cl (σ 20 1) → row (226 + j) = σ 21 j) ∧ (k_lt (σ 22 1) 25 ∧ row 9 = σ 22 1 ∧ ∀ j, j < cl (σ 22 1) → row (286 + j) = σ 23 j)
def RX (σ : Sg) (row : Nat → Int32) : Prop := RT (σ 13 1) (σ 14) row 310 ∧ RT (σ 17 1) (σ 18) row 431
def RW (σ : Sg) (row : Nat → Int32) : Prop := IvA σ ∧ RA σ row ∧ IvQ σ ∧ RQ σ row ∧ IvC σ ∧ RC σ row ∧ RB σ row ∧ RX σ row
/-- sheets, the trace, what is told -/
def RS (σ τ : Sg) : Prop := (∀ k, k < 4 → τ 5 k = σ 60 k ∧ τ 6 k = σ 61 k ∧ k_lt (σ 61 k) 25) ∧ ∀ j, j < 96 → τ 7 j = σ 62 j
def RV (σ τ : Sg) : Prop := (k_lt (σ 57 1) 31 ∧ τ 0 22 = σ 57 1) ∧ ∀ j, j < 30 → τ 14 j = σ 58 j
def k_sh (σ : Sg) : Sg := fun i => σ (i + 23)
/-- the system's cells and the reference's say the same -/
def RR (σ τ : Sg) : Prop := (RW σ (τ 1) ∧ nT σ < 10000) ∧ (τ 0 3 = σ 0 7 ∧ (¬ σ 0 7 = 0 → RW (k_sh σ) (τ 2) ∧ nT (k_sh σ) < 10000)) ∧ (∀ k, k < 7 → τ 4 k = σ 63 k) ∧ RS σ τ ∧ RV σ τ
/-- cells that working out a text writes: nobody asks for them later -/
def k_sC (i : Nat) : Bool := !(i == 15 || i == 19)
def k_sR (i : Nat) : Bool := !(i == 10 || i == 11)
def k_sN (i : Nat) : Bool := !(i == 1 || i == 10 || i == 11)
def eqC (σ σ' : Sg) : Prop := ∀ i, k_sC i = true → σ' i = σ i
def eqR (τ τ' : Sg) : Prop := ∀ i, k_sR i = true → τ' i = τ i
def eqN (τ τ' : Sg) : Prop := ∀ i, k_sN i = true → τ' i = τ i
/-- cells that nobody asks for after a call: piles, the reader, thoughts, the one who speaks -/
def k_mC (i : Nat) : Bool := !(i == 15 || i == 19 || (47 ≤ i && i ≤ 56))
def eqD (σ σ' : Sg) : Prop := ∀ i, k_mC i = true → σ' i = σ i
def eqM (τ τ' : Sg) : Prop := τ' 1 = τ 1 ∧ τ' 2 = τ 2 ∧ τ' 4 = τ 4 ∧ τ' 5 = τ 5 ∧ τ' 6 = τ 6 ∧ τ' 7 = τ 7 ∧ τ' 14 = τ 14 ∧ τ' 0 3 = τ 0 3 ∧ τ' 0 22 = τ 0 22
theorem eqC.rf {σ : Sg} : eqC σ σ := fun _ _ => rfl
theorem eqC.tr {σ σ' σ'' : Sg} (h : eqC σ σ') (h' : eqC σ' σ'') : eqC σ σ'' := fun i q => (h' i q).trans (h i q)
theorem eqD.rf {σ : Sg} : eqD σ σ := fun _ _ => rfl
theorem eqD.tr {σ σ' σ'' : Sg} (h : eqD σ σ') (h' : eqD σ' σ'') : eqD σ σ'' := fun i q => (h' i q).trans (h i q)
theorem eqR.rf {σ : Sg} : eqR σ σ := fun _ _ => rfl
theorem eqR.tr {σ σ' σ'' : Sg} (h : eqR σ σ') (h' : eqR σ' σ'') : eqR σ σ'' := fun i q => (h' i q).trans (h i q)
theorem eqN.rf {σ : Sg} : eqN σ σ := fun _ _ => rfl
theorem eqN.tr {σ σ' σ'' : Sg} (h : eqN σ σ') (h' : eqN σ' σ'') : eqN σ σ'' := fun i q => (h' i q).trans (h i q)
theorem eqM.rf {τ : Sg} : eqM τ τ := ⟨rfl, rfl, rfl, rfl, rfl, rfl, rfl, rfl, rfl⟩
theorem eqM.tr {τ τ' τ'' : Sg} (h : eqM τ τ') (h' : eqM τ' τ'') : eqM τ τ'' := by
  obtain ⟨a1, a2, a3, a4, a5, a6, a7, a8, a9⟩ := h
  obtain ⟨b1, b2, b3, b4, b5, b6, b7, b8, b9⟩ := h'
  exact ⟨b1.trans a1, b2.trans a2, b3.trans a3, b4.trans a4, b5.trans a5, b6.trans a6, b7.trans a7, b8.trans a8, b9.trans a9⟩
theorem eqR.m {τ τ' : Sg} (h : eqR τ τ') : eqM τ τ' := ⟨h 1 rfl, h 2 rfl, h 4 rfl, h 5 rfl, h 6 rfl, h 7 rfl, h 14 rfl, by rw [h 0 rfl], by rw [h 0 rfl]⟩
theorem eqC.d {σ σ' : Sg} (h : eqC σ σ') : eqD σ σ' := fun i q => h i (by
  unfold k_mC at q
  unfold k_sC
  simp only [Bool.not_eq_true', Bool.or_eq_false_iff] at q ⊢
  exact q.1)
theorem eqR.n {τ τ' : Sg} (h : eqR τ τ') : eqN τ τ' := fun i q => h i (by
  unfold k_sN at q
  unfold k_sR
  simp only [Bool.not_eq_true', Bool.or_eq_false_iff] at q ⊢
  exact ⟨q.1.2, q.2⟩)
theorem eqC.put {σ : Sg} {i : Nat} {r : Nat → Int32} (h : k_sC i = false) : eqC σ (k_put σ i r) := fun j q => k_put_ne (fun e => by rw [e, h] at q; cases q)
theorem eqD.put {σ : Sg} {i : Nat} {r : Nat → Int32} (h : k_mC i = false) : eqD σ (k_put σ i r) := fun j q => k_put_ne (fun e => by rw [e, h] at q; cases q)
theorem eqR.put {σ : Sg} {i : Nat} {r : Nat → Int32} (h : k_sR i = false) : eqR σ (k_put σ i r) := fun j q => k_put_ne (fun e => by rw [e, h] at q; cases q)
theorem eqN.put {σ : Sg} {i : Nat} {r : Nat → Int32} (h : k_sN i = false) : eqN σ (k_put σ i r) := fun j q => k_put_ne (fun e => by rw [e, h] at q; cases q)
theorem eqN.put1 {τ : Sg} {r : Nat → Int32} : eqN τ (k_put τ 1 r) := eqN.put rfl
theorem eqM.put {τ : Sg} {i : Nat} {r : Nat → Int32} (h : (i ∉ [0, 1, 2, 4, 5, 6, 7, 14])) : eqM τ (k_put τ i r) := by
  have g : ∀ j, j ∈ [0, 1, 2, 4, 5, 6, 7, 14] → k_put τ i r j = τ j := fun j q => k_put_ne (fun e => h (e ▸ q))
  exact ⟨g _ (by decide), g _ (by decide), g _ (by decide), g _ (by decide), g _ (by decide), g _ (by decide), g _ (by decide), by rw [g 0 (by decide)], by rw [g 0 (by decide)]⟩
theorem eqM.put0 {τ : Sg} {k : Nat} {x : Int32} (h : k ≠ 3 ∧ k ≠ 22) : eqM τ (k_put τ 0 (upd (τ 0) k x)) := by
  refine ⟨rfl, rfl, rfl, rfl, rfl, rfl, rfl, ?_, ?_⟩
  · rw [k_put_at, upd_ne (Ne.symm h.1)]
  · rw [k_put_at, upd_ne (Ne.symm h.2)]
/-- the two relations do not see those cells -/
theorem RW.congr {σ σ' : Sg} {row : Nat → Int32} (h : RW σ row) (e : ∀ i, i ∈ [1, 2, 3, 4, 5, 6, 7, 8, 9, 10, 11, 13, 14, 17, 18, 20, 21, 22, 23] → σ' i = σ i) : RW σ' row := by
  have e1 := e 1 (by decide)
  have e2 := e 2 (by decide)
  have e3 := e 3 (by decide)
  have e4 := e 4 (by decide)
  have e5 := e 5 (by decide)
  have e6 := e 6 (by decide)
  have e7 := e 7 (by decide)
  have e8 := e 8 (by decide)
  have e9 := e 9 (by decide)
  have e10 := e 10 (by decide)
  have e11 := e 11 (by decide)
  have e13 := e 13 (by decide)
  have e14 := e 14 (by decide)
  have e17 := e 17 (by decide)
  have e18 := e 18 (by decide)
  have e20 := e 20 (by decide)
  have e21 := e 21 (by decide)
  have e22 := e 22 (by decide)
  have e23 := e 23 (by decide)
  unfold RW IvA RA IvQ RQ IvC RC RB RX at *
  simp only [nP, nQ] at *
  rw [e1, e2, e3, e4, e5, e6, e7, e8, e9, e10, e11, e13, e14, e17, e18, e20, e21, e22, e23]
  exact h
theorem RR.congrW {σ σ' τ τ' : Sg} (h : RR σ τ) (hC : eqD σ σ') (hR : eqM τ τ') : RR σ' τ' := by
  obtain ⟨⟨h1, h2⟩, ⟨h3, h4⟩, h5, h6, h7⟩ := h
  obtain ⟨r1, r2, r4, r5, r6, r7, r14, r3, r22⟩ := hR
  have eW : ∀ i, i ∈ [1, 2, 3, 4, 5, 6, 7, 8, 9, 10, 11, 13, 14, 17, 18, 20, 21, 22, 23] → σ' i = σ i := fun i q => hC i (by revert i; decide)
  have eI : ∀ i, i ∈ [1, 2, 3, 4, 5, 6, 7, 8, 9, 10, 11, 13, 14, 17, 18, 20, 21, 22, 23] → k_sh σ' i = k_sh σ i := fun i q => hC (i + 23) (by revert i; decide)
  have e0 : σ' 0 = σ 0 := hC 0 (by decide)
  have e1 : σ' 1 = σ 1 := hC 1 (by decide)
  have e24 : k_sh σ' 1 = k_sh σ 1 := hC 24 (by decide)
  refine ⟨⟨?_, ?_⟩, ⟨?_, ?_⟩, ?_, ?_, ?_⟩
  · rw [r1]; exact h1.congr eW
  · simp only [nT, e1] at *; exact h2
  · rw [r3, e0]; exact h3
  · rw [e0, r2]; intro q
    refine ⟨(h4 q).1.congr eI, ?_⟩
    have := (h4 q).2
    simp only [nT] at *
    rw [e24]; exact this
  · rw [r4, hC 63 (by decide)]; exact h5
  · unfold RS at *
    rw [r5, r6, r7, hC 60 (by decide), hC 61 (by decide), hC 62 (by decide)]; exact h6
  · unfold RV at *
    rw [r14, r22, hC 57 (by decide), hC 58 (by decide)]; exact h7
theorem RR.congr {σ σ' τ τ' : Sg} (h : RR σ τ) (hC : eqC σ σ') (hR : eqR τ τ') : RR σ' τ' := h.congrW hC.d hR.m
