/-! Walk.leastStep: the least of what is one step nearer -/
theorem pw_least_L {S T : List Nat} {rl o p p3 : Int} {rins rlst st num : Nat → Int} {z3 : (Nat → Int) × (Nat → Int) × Int} (hS : ps_S S rl rins rlst) (hT : ps_S T z3.2.2 z3.1 z3.2.1) (hn : ∀ k, k < 100 → tl_R (num k)) (hst : ∀ k ∈ S, tl_R (st k)) (hp3 : tl_R p3) :
    ∀ (n i : Nat) (b : Int), i ≤ T.length → T.length + 1 ≤ i + n → (b = -1 ∨ ∃ k : Nat, k < 100 ∧ b = (k : Int)) →
      fX8_leastStep_L1 rl rins st o p num p3 z3 n (i : Int) b = some (pl_fold (fun x => (if x ∈ S then st x else -1) = p3) num b (T.drop i)) := by
  have h100 := hT.le
  have he := hT.1
  intro n
  induction n with
  | zero => intro i b h1 h2; omega
  | succ n ih =>
    intro i b hi hn2 hb
    rw [fX8_leastStep_L1]
    unfold fX4_length
    rw [pr_b, tl_gt ⟨⟨by omega, by omega⟩, ⟨by omega, by omega⟩⟩]
    by_cases hq : i < T.length
    · have hm := hT.2.2.1 _ (List.getElem_mem hq)
      have hR : tl_R (if T[i] ∈ S then st T[i] else -1) := by
        by_cases hmS : T[i] ∈ S
        · rw [if_pos hmS]
          exact hst _ hmS
        · rw [if_neg hmS]
          decide
      rw [if_pos (by omega), ps_get hT hq, pr_b, pw_stepsTo hS hm, pr_b, tl_gt ⟨hR, hp3⟩, show (i : Int) + 1 = ((i + 1 : Nat) : Int) by omega, List.drop_eq_getElem_cons hq, pl_fold]
      unfold pl_step
      by_cases hP : (if T[i] ∈ S then st T[i] else -1) = p3
      · rw [if_pos hP, pr_b, tl_gt (by decide), if_neg (by decide)]
        rcases hb with rfl | ⟨k, hk, rfl⟩
        · rw [tl_gt (by decide), if_pos rfl, if_pos ⟨hP, Or.inl (by decide)⟩]
          exact ih (i + 1) _ hq (by omega) (Or.inr ⟨_, hm, rfl⟩)
        · rw [tl_gt ⟨⟨by omega, by omega⟩, by decide⟩, if_neg (by omega), ph_numberOf hm, pr_b, ph_numberOf hk, pr_b, tl_gt ⟨hn _ hm, hn _ hk⟩, Int.toNat_natCast]
          by_cases hlt : num T[i] < num k
          · rw [if_pos hlt, if_pos ⟨hP, Or.inr hlt⟩]
            exact ih (i + 1) _ hq (by omega) (Or.inr ⟨_, hm, rfl⟩)
          · rw [if_neg hlt, if_neg (fun z => z.2.elim (fun q => by omega) hlt)]
            exact ih (i + 1) _ hq (by omega) (Or.inr ⟨_, hk, rfl⟩)
      · rw [if_neg hP, pr_b, tl_gt (by decide), if_pos rfl, if_neg (fun z => hP z.1)]
        exact ih (i + 1) _ hq (by omega) hb
    · rw [if_neg (by omega), List.drop_eq_nil_of_le (by omega)]
      rfl
