/-! measure without marks walks what spread walks -/
theorem qm_own0 (nl : Nat) (rule : Nat → Int) (Rw : Nat → Nat → List Nat) (gone : Nat → Int) : qm_own nl rule Rw 0 gone = pw_own nl rule Rw := by
  funext s
  unfold qm_own
  exact List.filter_eq_self.mpr (fun x _ => by simp [qm_ok])
theorem pw_from_congr {r1 r2 : Nat → Int} {Rw : Nat → Nat → List Nat} {s : Nat} : ∀ (m l : Nat), (∀ k, l ≤ k → k < l + m → r1 k = r2 k) → pw_from r1 Rw s m l = pw_from r2 Rw s m l
  | 0, _, _ => rfl
  | m + 1, l, h => by
    rw [pw_from, pw_from, h l (Nat.le_refl _) (by omega), pw_from_congr m (l + 1) (fun k h1 h2 => h k (by omega) (by omega))]
theorem pw_own_congr {nl : Nat} {r1 r2 : Nat → Int} {Rw : Nat → Nat → List Nat} (h : ∀ l, l < nl → r1 l = r2 l) : pw_own nl r1 Rw = pw_own nl r2 Rw := by
  funext s
  exact pw_from_congr nl 0 (fun k _ h2 => h k (by omega))
theorem pw_mem_from {rules : Nat → Int} {Rw : Nat → Nat → List Nat} {s x : Nat} : ∀ (m l : Nat), x ∈ pw_from rules Rw s m l ↔ ∃ k, l ≤ k ∧ k < l + m ∧ rules k = 1 ∧ x ∈ Rw k s
  | 0, l => ⟨fun h => (by cases h), fun ⟨k, h1, h2, _⟩ => (by omega)⟩
  | m + 1, l => by
    rw [pw_from, List.mem_append, pw_mem_from m (l + 1)]
    constructor
    · rintro (h | ⟨k, h1, h2, h3, h4⟩)
      · by_cases hq : rules l = 1
        · rw [if_pos hq] at h
          exact ⟨l, Nat.le_refl _, by omega, hq, h⟩
        · rw [if_neg hq] at h
          cases h
      · exact ⟨k, by omega, by omega, h3, h4⟩
    · rintro ⟨k, h1, h2, h3, h4⟩
      by_cases hk : k = l
      · subst hk
        rw [if_pos h3]
        exact Or.inl h4
      · exact Or.inr ⟨k, by omega, by omega, h3, h4⟩
theorem pw_mem_own {nl : Nat} {rules : Nat → Int} {Rw : Nat → Nat → List Nat} {s x : Nat} : x ∈ pw_own nl rules Rw s ↔ ∃ k, k < nl ∧ rules k = 1 ∧ x ∈ Rw k s := by
  unfold pw_own
  rw [pw_mem_from]
  exact ⟨fun ⟨k, _, h2, h3⟩ => ⟨k, by omega, h3⟩, fun ⟨k, h2, h3⟩ => ⟨k, Nat.zero_le _, by omega, h3⟩⟩
theorem pr_mem_addAll {x : Nat} : ∀ (xs S : List Nat), x ∈ pr_addAll S xs ↔ x ∈ S ∨ x ∈ xs
  | [], S => by simp [pr_addAll]
  | y :: xs, S => by
    rw [pr_addAll, pr_mem_addAll xs]
    by_cases hy : y ∈ S
    · rw [if_pos hy, List.mem_cons]
      exact ⟨fun h => h.elim Or.inl (fun z => Or.inr (Or.inr z)), fun h => h.elim Or.inl (fun z => z.elim (fun e => Or.inl (e ▸ hy)) Or.inr)⟩
    · rw [if_neg hy, List.mem_cons, List.mem_append, List.mem_singleton, or_assoc]
