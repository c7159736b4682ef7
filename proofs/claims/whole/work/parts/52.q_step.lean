/-! the reference's walk: the least of what is one step nearer -/
theorem pl_fold_app {P : Nat → Prop} [DecidablePred P] {num : Nat → Int} : ∀ (xs ys : List Nat) (b : Int), pl_fold P num b (xs ++ ys) = pl_fold P num (pl_fold P num b xs) ys
  | [], _, _ => rfl
  | x :: xs, ys, b => pl_fold_app xs ys (pl_step P num b x)
theorem pl_fold_slot {P : Nat → Prop} [DecidablePred P] {num : Nat → Int} : ∀ (xs : List Nat) (b : Int), (∀ x ∈ xs, x < 100) → (b = -1 ∨ ∃ k : Nat, k < 100 ∧ b = (k : Int)) → (pl_fold P num b xs = -1 ∨ ∃ k : Nat, k < 100 ∧ pl_fold P num b xs = (k : Int))
  | [], _, _, h => h
  | x :: xs, b, hx, h => by
    refine pl_fold_slot xs _ (fun y hy => hx y (List.mem_cons_of_mem _ hy)) ?_
    unfold pl_step
    by_cases hP : P x ∧ (b < 0 ∨ num x < num b.toNat)
    · rw [if_pos hP]
      exact Or.inr ⟨x, hx x List.mem_cons_self, rfl⟩
    · rw [if_neg hP]
      exact h
theorem qw_L3 {xs : List Nat} {has hasMany num steps : Nat → Int} {l x : Nat} (hl : l < 10) (hx100 : x < 100) (h1 : hasMany (l * 100 + x) = (xs.length : Int)) (h12 : xs.length ≤ 12) (hx : ∀ y ∈ xs, y < 100) (h3 : ∀ (i : Nat) (h : i < xs.length), has ((l * 100 + x) * 12 + i) = ((xs[i] : Nat) : Int)) (hn : ∀ k, k < 100 → tl_R (num k)) (hst : ∀ k, k < 100 → tl_R (steps k)) (hsx : tl_R (steps x - 1)) :
    ∀ (n i : Nat) (b : Int), i ≤ xs.length → xs.length + 1 ≤ i + n → (b = -1 ∨ ∃ k : Nat, k < 100 ∧ b = (k : Int)) →
      fX10_walk_L3 has hasMany num steps (x : Int) (l : Int) n (i : Int) b = some (pl_fold (fun y => steps y = steps x - 1) num b (xs.drop i)) := by
  have er : (((l : Nat) : Int) * (100 : Int) + (x : Int)) = ((l * 100 + x : Nat) : Int) := by omega
  intro n
  induction n with
  | zero => intro i b h1 h2; omega
  | succ n ih =>
    intro i b hi hn2 hb
    rw [fX10_walk_L3, er, tl_gt ⟨by omega, by omega⟩, Int.toNat_natCast, h1, tl_gt ⟨⟨by omega, by omega⟩, ⟨by omega, by omega⟩⟩]
    by_cases hq : i < xs.length
    · have hm := hx _ (List.getElem_mem hq)
      rw [if_pos (by omega), tl_gt ⟨by omega, by omega⟩, qr_ix, h3 i hq, tl_gt ⟨by omega, by omega⟩, tl_gt ⟨by omega, by omega⟩, Int.toNat_natCast, Int.toNat_natCast, tl_gt ⟨hst _ hm, hsx⟩, show (i : Int) + 1 = ((i + 1 : Nat) : Int) by omega, List.drop_eq_getElem_cons hq, pl_fold]
      unfold pl_step
      by_cases hP : steps xs[i] = steps x - 1
      · rw [if_pos hP]
        rcases hb with rfl | ⟨k, hk, rfl⟩
        · rw [tl_gt (by decide), if_pos (by decide), if_pos ⟨hP, Or.inl (by decide)⟩]
          exact ih (i + 1) _ hq (by omega) (Or.inr ⟨_, hm, rfl⟩)
        · rw [tl_gt ⟨by omega, by omega⟩, if_neg (by omega), tl_gt ⟨by omega, by omega⟩, tl_gt ⟨by omega, by omega⟩, Int.toNat_natCast, tl_gt ⟨hn _ hm, hn _ hk⟩]
          by_cases hlt : num xs[i] < num k
          · rw [if_pos hlt, if_pos ⟨hP, Or.inr hlt⟩]
            exact ih (i + 1) _ hq (by omega) (Or.inr ⟨_, hm, rfl⟩)
          · rw [if_neg hlt, if_neg (fun z => z.2.elim (fun q => by omega) hlt)]
            exact ih (i + 1) _ hq (by omega) (Or.inr ⟨_, hk, rfl⟩)
      · rw [if_neg hP, if_neg (fun z => hP z.1)]
        exact ih (i + 1) _ hq (by omega) hb
    · rw [if_neg (by omega), List.drop_eq_nil_of_le (by omega)]
      rfl
