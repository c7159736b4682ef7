/-! the least of a list, by a number -/
def pl_step (P : Nat → Prop) [DecidablePred P] (num : Nat → Int) (b : Int) (x : Nat) : Int := if P x ∧ (b < 0 ∨ num x < num b.toNat) then (x : Int) else b
def pl_fold (P : Nat → Prop) [DecidablePred P] (num : Nat → Int) : Int → List Nat → Int
  | b, [] => b
  | b, x :: xs => pl_fold P num (pl_step P num b x) xs
def pl_least (P : Nat → Prop) (num : Nat → Int) (xs : List Nat) (r : Int) : Prop := (r = -1 ∧ ∀ x ∈ xs, ¬ P x) ∨ ∃ k : Nat, r = (k : Int) ∧ k ∈ xs ∧ P k ∧ ∀ x ∈ xs, P x → num k ≤ num x
theorem pl_step_least {P : Nat → Prop} [DecidablePred P] {num : Nat → Int} {A : List Nat} {b : Int} (h : pl_least P num A b) (x : Nat) : pl_least P num (A ++ [x]) (pl_step P num b x) := by
  unfold pl_step
  rcases h with ⟨rfl, h1⟩ | ⟨k, rfl, h1, h2, h3⟩
  · by_cases hP : P x
    · rw [if_pos ⟨hP, Or.inl (by decide)⟩]
      refine Or.inr ⟨x, rfl, by simp, hP, fun y hy hPy => ?_⟩
      rcases List.mem_append.mp hy with q | q
      · exact absurd hPy (h1 y q)
      · rw [List.mem_singleton.mp q]
        exact Int.le_refl _
    · rw [if_neg (fun z => hP z.1)]
      refine Or.inl ⟨rfl, fun y hy => ?_⟩
      rcases List.mem_append.mp hy with q | q
      · exact h1 y q
      · rw [List.mem_singleton.mp q]
        exact hP
  · rw [Int.toNat_natCast]
    by_cases hP : P x ∧ ((k : Int) < 0 ∨ num x < num k)
    · rw [if_pos hP]
      have hlt : num x < num k := hP.2.elim (fun z => by omega) id
      refine Or.inr ⟨x, rfl, by simp, hP.1, fun y hy hPy => ?_⟩
      rcases List.mem_append.mp hy with q | q
      · have := h3 y q hPy
        omega
      · rw [List.mem_singleton.mp q]
        exact Int.le_refl _
    · rw [if_neg hP]
      refine Or.inr ⟨k, rfl, List.mem_append_left _ h1, h2, fun y hy hPy => ?_⟩
      rcases List.mem_append.mp hy with q | q
      · exact h3 y q hPy
      · rw [List.mem_singleton.mp q] at hPy ⊢
        exact Int.not_lt.mp (fun z => hP ⟨hPy, Or.inr z⟩)
theorem pl_fold_least {P : Nat → Prop} [DecidablePred P] {num : Nat → Int} : ∀ (xs A : List Nat) (b : Int), pl_least P num A b → pl_least P num (A ++ xs) (pl_fold P num b xs)
  | [], A, b, h => by
    rw [List.append_nil]
    exact h
  | x :: xs, A, b, h => by
    have h1 := pl_fold_least xs (A ++ [x]) _ (pl_step_least h x)
    rw [List.append_assoc] at h1
    exact h1
/-- two such searches over the same slots meet, where no two slots bear one number -/
theorem pl_least.one {P Q : Nat → Prop} {num : Nat → Int} {xs ys : List Nat} {r s : Int} (h : pl_least P num xs r) (h2 : pl_least Q num ys s) (e : ∀ x, (x ∈ xs ∧ P x) ↔ (x ∈ ys ∧ Q x)) (hi : ∀ x ∈ xs, ∀ y ∈ xs, num x = num y → x = y) : r = s := by
  rcases h with ⟨rfl, h1⟩ | ⟨k, rfl, h1, h3, h4⟩
  · rcases h2 with ⟨rfl, _⟩ | ⟨j, rfl, h5, h6, _⟩
    · rfl
    · have h7 := (e j).mpr ⟨h5, h6⟩
      exact absurd h7.2 (h1 j h7.1)
  · rcases h2 with ⟨rfl, h5⟩ | ⟨j, rfl, h5, h6, h7⟩
    · have h8 := (e k).mp ⟨h1, h3⟩
      exact absurd h8.2 (h5 k h8.1)
    · have h8 := (e k).mp ⟨h1, h3⟩
      have h9 := (e j).mpr ⟨h5, h6⟩
      have ha := h7 k h8.1 h8.2
      have hb := h4 j h9.1 h9.2
      rw [hi k h1 j h9.1 (by omega)]
