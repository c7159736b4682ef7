theorem qw_L2 {nl x : Nat} {rule has hasMany num steps : Nat → Int} {Rw : Nat → Nat → List Nat} (h : qr_R Rw hasMany has) (hn10 : nl ≤ 10) (hr : ∀ l, l < nl → tl_R (rule l)) (hx100 : x < 100) (hn : ∀ k, k < 100 → tl_R (num k)) (hst : ∀ k, k < 100 → tl_R (steps k)) (hsx : tl_R (steps x - 1)) :
    ∀ (n m l : Nat) (b : Int), l + m = nl → m + 1 ≤ n → (b = -1 ∨ ∃ k : Nat, k < 100 ∧ b = (k : Int)) →
      fX10_walk_L2 (nl : Int) has hasMany num rule steps (x : Int) n (l : Int) b = some (pl_fold (fun y => steps y = steps x - 1) num b (pw_from rule Rw x m l)) := by
  intro n
  induction n with
  | zero => intro m l b h1 h2; omega
  | succ n ih =>
    intro m l b hlm hn2 hb
    rw [fX10_walk_L2, tl_gt ⟨⟨by omega, by omega⟩, ⟨by omega, by omega⟩⟩]
    cases m with
    | zero =>
      rw [if_neg (by omega)]
      rfl
    | succ m =>
      rw [if_pos (by omega), tl_gt ⟨by omega, by omega⟩, Int.toNat_natCast, tl_gt ⟨hr l (by omega), by decide⟩, show (l : Int) + 1 = ((l + 1 : Nat) : Int) by omega, pw_from, pl_fold_app]
      by_cases hq : rule l = 1
      · obtain ⟨h1, h2, h3, h4⟩ := h l x (by omega) hx100
        have h5 := qw_L3 (num := num) (steps := steps) (l := l) (by omega) hx100 h1 h2 h4 h3 hn hst hsx tl_N 0 b (Nat.zero_le _) (by unfold tl_N; omega) hb
        rw [show ((0 : Nat) : Int) = (0 : Int) from rfl, List.drop_zero] at h5
        rw [if_pos hq, h5, pr_b, if_pos hq]
        exact ih m (l + 1) _ (by omega) (by omega) (pl_fold_slot _ _ h4 hb)
      · rw [if_neg hq, if_neg hq]
        exact ih m (l + 1) _ (by omega) (by omega) hb
