/-! promise 26: what a day less breaks -/
theorem lives_mono : ∀ k, k < 7 → ∀ m, m < 10 → ∀ t, t < 9 → ∀ w, w < 7 → 0 < livesF (nI k) (nI m) (nI t) (nI w) → 0 < livesF (nI k) (nI m) (nI (t + 1)) (nI w) := by decide +kernel
/-- how many promises, kept, touch somebody's day -/
noncomputable def hnF (σ : Sg) (p q : Nat) : Nat → Nat
  | 0 => 0
  | k + 1 => hnF σ p q k + @ite Nat (σ 11 k = nI q ∧ (σ 9 k = nI p ∨ σ 10 k = nI p) ∧ keptF σ k) (Classical.propDecidable _) 1 0
theorem hnF_le (σ : Sg) (p q : Nat) : ∀ k, hnF σ p q k ≤ k
  | 0 => Nat.le_refl _
  | k + 1 => by
    have := hnF_le σ p q k
    simp only [hnF]
    split <;> omega
noncomputable def hkF (σ : Sg) (p q : Nat) : Nat := if livesF (σ 3 p) (σ 4 p) (σ 7 (p * 28 + q) - nI 1) (nI (q % 7)) ≤ 0 then hnF σ p q (nQ σ) else 0
theorem hkF_le {σ : Sg} (h : IvQ σ) (p q : Nat) : hkF σ p q ≤ 8 := by
  have := nQ_le h
  have := hnF_le σ p q (nQ σ)
  unfold hkF
  split <;> omega
/-- a day less -/
def dlF (σ : Sg) (p q t : Nat) : Sg := k_put σ 7 (upd (σ 7) (p * 28 + q) (nI t))
theorem dlF_ne {σ : Sg} {p q t i : Nat} (h : i ≠ 7) : dlF σ p q t i = σ i := k_put_ne h
theorem dlF_lv {σ : Sg} {p q t p' q' : Nat} (hq : q < 28) (hq' : q' < 28) : lvF (dlF σ p q t) p' q' = if p' = p ∧ q' = q then livesF (σ 3 p) (σ 4 p) (nI t) (nI (q % 7)) else lvF σ p' q' := by
  unfold lvF
  rw [dlF_ne (by decide), dlF_ne (by decide)]
  unfold dlF
  rw [k_put_at]
  by_cases e : p' = p ∧ q' = q
  · rw [if_pos e, e.1, e.2, upd_at]
  · rw [if_neg e, upd_ne (by omega)]
section P62
variable {σ : Sg} {p q t : Nat}
theorem rd_mono (hA : IvA σ) (hp : p < 6) (hq : q < 28) (ht : t < 9) (e : σ 7 (p * 28 + q) = nI (t + 1)) (h : 0 < livesF (σ 3 p) (σ 4 p) (nI t) (nI (q % 7))) : 0 < lvF σ p q := by
  obtain ⟨⟨⟨a, ha, ea⟩, ⟨b, hb, eb⟩, -⟩, -⟩ := hA.2 p hp
  unfold lvF
  rw [e]
  rw [ea, eb] at h ⊢
  exact lives_mono a ha b hb t ht _ (Nat.mod_lt _ (by decide)) h
theorem nle0 {x : Int32} : ¬ x ≤ 0 ↔ 0 < x := by rw [k_lei, k_lti]; omega
theorem kept_red (hA : IvA σ) (hQ : IvQ σ) (hp : p < 6) (hq : q < 28) (ht : t < 9) (e : σ 7 (p * 28 + q) = nI (t + 1)) {k : Nat} (hk : k < nQ σ) : keptF (dlF σ p q t) k ↔ keptF σ k ∧ ¬ (livesF (σ 3 p) (σ 4 p) (nI t) (nI (q % 7)) ≤ 0 ∧ σ 11 k = nI q ∧ (σ 9 k = nI p ∨ σ 10 k = nI p)) := by
  have hn := nP_le hA
  obtain ⟨⟨g, hg, e1⟩, ⟨o, ho, e2⟩, ⟨c, hc, e3⟩⟩ := hQ.2 k hk
  have z1 : cl (σ 9 k) = g := by rw [e1]; exact nI_clamp (by omega)
  have z2 : cl (σ 10 k) = o := by rw [e2]; exact nI_clamp (by omega)
  have z3 : cl (σ 11 k) = c := by rw [e3]; exact nI_clamp (by omega)
  have mono := rd_mono hA hp hq ht e
  unfold keptF
  rw [dlF_ne (by decide), dlF_ne (by decide), dlF_ne (by decide), z1, z2, z3, e1, e2, e3, nI_eq (by omega) (by omega), nI_eq (by omega) (by omega), nI_eq (by omega) (by omega), dlF_lv hq hc, dlF_lv hq hc]
  by_cases c1 : c = q
  · subst c1
    by_cases l : livesF (σ 3 p) (σ 4 p) (nI t) (nI (c % 7)) ≤ 0
    · have nl : ¬ 0 < livesF (σ 3 p) (σ 4 p) (nI t) (nI (c % 7)) := fun z => nle0.mpr z l
      by_cases g1 : g = p
      · subst g1
        simp [nl, l]
      · by_cases o1 : o = p
        · subst o1
          simp [nl, l]
        · simp [g1, o1]
    · have pl := nle0.mp l
      have ml := mono pl
      by_cases g1 : g = p
      · subst g1
        by_cases o1 : o = g
        · subst o1; simp [l, pl, ml]
        · simp [l, pl, ml, o1]
      · by_cases o1 : o = p
        · subst o1; simp [l, pl, ml, g1]
        · simp [l, g1, o1]
  · simp [c1]
theorem unk_red (hA : IvA σ) (hQ : IvQ σ) (hp : p < 6) (hq : q < 28) (ht : t < 9) (e : σ 7 (p * 28 + q) = nI (t + 1)) : ∀ k, k ≤ nQ σ → unkF (dlF σ p q t) k = unkF σ k + (if livesF (σ 3 p) (σ 4 p) (nI t) (nI (q % 7)) ≤ 0 then hnF σ p q k else 0)
  | 0, _ => by simp only [unkF, hnF]; split <;> rfl
  | k + 1, hk => by
    have ih := unk_red hA hQ hp hq ht e k (by omega)
    have kr := kept_red hA hQ hp hq ht e (k := k) (by omega)
    simp only [unkF, hnF]
    rw [ih]
    by_cases l : livesF (σ 3 p) (σ 4 p) (nI t) (nI (q % 7)) ≤ 0
    · rw [if_pos l, if_pos l]
      by_cases a : keptF σ k
      · rw [if_pos a]
        by_cases b : σ 11 k = nI q ∧ (σ 9 k = nI p ∨ σ 10 k = nI p)
        · rw [if_neg (show ¬ keptF (dlF σ p q t) k from fun z => (kr.mp z).2 ⟨l, b⟩), if_pos ⟨b.1, b.2, a⟩]
          omega
        · rw [if_pos (kr.mpr ⟨a, fun z => b z.2⟩), if_neg (fun z => b ⟨z.1, z.2.1⟩)]
          omega
      · rw [if_neg (show ¬ keptF (dlF σ p q t) k from fun z => a (kr.mp z).1), if_neg a, if_neg (fun z => a z.2.2)]
        omega
    · rw [if_neg l, if_neg l]
      by_cases a : keptF σ k
      · rw [if_pos a, if_pos (kr.mpr ⟨a, fun z => l z.1⟩)]
      · rw [if_neg (show ¬ keptF (dlF σ p q t) k from fun z => a (kr.mp z).1), if_neg a]
theorem unk_rd (hA : IvA σ) (hQ : IvQ σ) (hp : p < 6) (hq : q < 28) (ht : t < 9) (e : σ 7 (p * 28 + q) = nI (t + 1)) : unkF (dlF σ p q t) (nQ σ) = unkF σ (nQ σ) + hkF σ p q := by
  rw [unk_red hA hQ hp hq ht e _ (Nat.le_refl _)]
  unfold hkF
  rw [e, show nI (t + 1) - nI 1 = nI t by rw [pk_sub (by omega)]; rfl]
/-- the harm of another day stays what it was -/
theorem lvF_o {p' q' : Nat} (hq : q < 28) (hq' : q' < 28) (hn : q' ≠ q) : lvF (dlF σ p q t) p' q' = lvF σ p' q' := by
  rw [dlF_lv hq hq', if_neg (fun z => hn z.2)]
theorem hnF_o {q' : Nat} (hQ : IvQ σ) (hq : q < 28) (hq' : q' < 28) (hn : q' ≠ q) : ∀ k, k ≤ nQ σ → hnF (dlF σ p q t) p q' k = hnF σ p q' k
  | 0, _ => rfl
  | k + 1, hk => by
    have ih := hnF_o hQ hq hq' hn k (by omega)
    simp only [hnF]
    rw [ih, dlF_ne (by decide), dlF_ne (by decide), dlF_ne (by decide)]
    congr 1
    have : (σ 11 k = nI q' ∧ (σ 9 k = nI p ∨ σ 10 k = nI p) ∧ keptF (dlF σ p q t) k) ↔ (σ 11 k = nI q' ∧ (σ 9 k = nI p ∨ σ 10 k = nI p) ∧ keptF σ k) := by
      constructor
      all_goals
        rintro ⟨a, b, c⟩
        refine ⟨a, b, ?_⟩
        have z3 : cl (σ 11 k) = q' := by rw [a]; exact nI_clamp (by omega)
        unfold keptF at c ⊢
        first
          | (rw [dlF_ne (by decide), dlF_ne (by decide), dlF_ne (by decide), z3, lvF_o hq hq' hn, lvF_o hq hq' hn] at c; rw [z3]; exact c)
          | (rw [dlF_ne (by decide), dlF_ne (by decide), dlF_ne (by decide), z3, lvF_o hq hq' hn, lvF_o hq hq' hn]; rw [z3] at c; exact c)
    by_cases c : σ 11 k = nI q' ∧ (σ 9 k = nI p ∨ σ 10 k = nI p) ∧ keptF σ k
    · rw [if_pos c, if_pos (this.mpr c)]
    · rw [if_neg c, if_neg (fun z => c (this.mp z))]
theorem hkF_o {q' : Nat} (hQ : IvQ σ) (hq : q < 28) (hq' : q' < 28) (hn : q' ≠ q) : hkF (dlF σ p q t) p q' = hkF σ p q' := by
  unfold hkF
  rw [dlF_ne (by decide), dlF_ne (by decide)]
  have e8 : nQ (dlF σ p q t) = nQ σ := rfl
  rw [e8, hnF_o hQ hq hq' hn _ (Nat.le_refl _)]
  have : dlF σ p q t 7 (p * 28 + q') = σ 7 (p * 28 + q') := by
    unfold dlF
    rw [k_put_at, upd_ne (by omega)]
  rw [this]
theorem priceF_o {q' : Nat} (hn : q' ≠ q) : priceF (dlF σ p q t) p q' = priceF σ p q' := by
  unfold priceF prF
  rw [dlF_ne (by decide), dlF_ne (by decide)]
  have : dlF σ p q t 7 (p * 28 + q') = σ 7 (p * 28 + q') := by
    unfold dlF
    rw [k_put_at, upd_ne (by omega)]
  rw [this]
end P62
