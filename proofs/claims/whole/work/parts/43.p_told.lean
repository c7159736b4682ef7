/-! Told, Trail, and the slots of House and of the reference -/
theorem pt_hasRule {nl l : Nat} {rules : Nat → Int} {c : Int} (hn : nl ≤ 10) (hl : l < nl) (hr : tl_R (rules l)) (hc : tl_R c) : fX5_hasRule (nl : Int) rules (l : Int) c = some (if rules l = c then 1 else 0) := by
  unfold fX5_hasRule
  rw [pt_knows hn hl, pr_b, tl_gt (by decide), if_neg (by decide), tl_gt ⟨by omega, by omega⟩, Int.toNat_natCast, tl_gt ⟨hr, hc⟩]
  by_cases h : rules l = c
  · rw [if_pos h, if_pos h]
  · rw [if_neg h, if_neg h]
theorem pt_hasForm {nl l : Nat} {forms : Nat → Int} {c : Int} (hn : nl ≤ 10) (hl : l < nl) (hr : tl_R (forms l)) (hc : tl_R c) : fX5_hasForm (nl : Int) forms (l : Int) c = some (if forms l = c then 1 else 0) := by
  unfold fX5_hasForm
  rw [pt_knows hn hl, pr_b, tl_gt (by decide), if_neg (by decide), tl_gt ⟨by omega, by omega⟩, Int.toNat_natCast, tl_gt ⟨hr, hc⟩]
  by_cases h : forms l = c
  · rw [if_pos h, if_pos h]
  · rw [if_neg h, if_neg h]
theorem pt_fromKind {nl l : Nat} {fr : Nat → Int} (hn : nl ≤ 10) (hl : l < nl) : fX5_fromKind (nl : Int) fr (l : Int) = some (fr l) := by
  unfold fX5_fromKind
  rw [pt_knows hn hl, pr_b, tl_gt (by decide), if_neg (by decide), tl_gt ⟨by omega, by omega⟩, Int.toNat_natCast]
theorem pt_toKind {nl l : Nat} {fr : Nat → Int} (hn : nl ≤ 10) (hl : l < nl) : fX5_toKind (nl : Int) fr (l : Int) = some (fr l) := by
  unfold fX5_toKind
  rw [pt_knows hn hl, pr_b, tl_gt (by decide), if_neg (by decide), tl_gt ⟨by omega, by omega⟩, Int.toNat_natCast]
/-- the least place below 100 of which P holds, or -1 -/
def ph_at (P : Nat → Prop) (r : Int) : Prop := (∃ k : Nat, k < 100 ∧ P k ∧ (∀ j, j < k → ¬ P j) ∧ r = (k : Int)) ∨ ((∀ k, k < 100 → ¬ P k) ∧ r = -1)
theorem ph_at.one {P Q : Nat → Prop} {r s : Int} (h : ph_at P r) (h2 : ph_at Q s) (e : ∀ k, k < 100 → (P k ↔ Q k)) : r = s := by
  rcases h with ⟨k, hk, hp, hm, rfl⟩ | ⟨hn, rfl⟩
  · rcases h2 with ⟨k2, hk2, hp2, hm2, rfl⟩ | ⟨hn2, rfl⟩
    · have h1 : ¬ k < k2 := fun q => hm2 k q ((e k hk).mp hp)
      have h3 : ¬ k2 < k := fun q => hm k2 q ((e k2 hk2).mpr hp2)
      omega
    · exact absurd ((e k hk).mp hp) (hn2 k hk)
  · rcases h2 with ⟨k2, hk2, hp2, hm2, rfl⟩ | ⟨hn2, rfl⟩
    · exact absurd ((e k2 hk2).mpr hp2) (hn k2 hk2)
    · rfl
theorem ph_bearing_L {v : Nat → Int} {x : Int} (hv : ∀ k, k < 100 → tl_R (v k)) (hx : tl_R x) :
    ∀ (n i : Nat), i ≤ 100 → 101 ≤ i + n → (∀ j, j < i → v j ≠ x) →
      (∃ k : Nat, k < 100 ∧ v k = x ∧ (∀ j, j < k → v j ≠ x) ∧ fX1_slotBearing_L1 v x n (i : Int) = some (.inr (k : Int))) ∨ ((∀ k, k < 100 → v k ≠ x) ∧ fX1_slotBearing_L1 v x n (i : Int) = some (.inl ())) := by
  intro n
  induction n with
  | zero => intro i h1 h2; omega
  | succ n ih =>
    intro i hi hn hj
    rw [fX1_slotBearing_L1, tl_gt ⟨⟨by omega, by omega⟩, by decide⟩]
    by_cases hq : i < 100
    · rw [if_pos (by omega), tl_gt ⟨by omega, by omega⟩, Int.toNat_natCast, tl_gt ⟨hv i hq, hx⟩]
      by_cases he : v i = x
      · rw [if_pos he]
        exact Or.inl ⟨i, hq, he, hj, rfl⟩
      · rw [if_neg he, show (i : Int) + 1 = ((i + 1 : Nat) : Int) by omega]
        refine ih (i + 1) hq (by omega) (fun j hj2 => ?_)
        by_cases h3 : j = i
        · rw [h3]
          exact he
        · exact hj j (by omega)
    · rw [if_neg (by omega)]
      exact Or.inr ⟨fun k hk => hj k (by omega), rfl⟩
theorem ph_bearing {o p x : Int} {v : Nat → Int} (hv : ∀ k, k < 100 → tl_R (v k)) (hx : tl_R x) : ∃ r, fX1_slotBearing o p v x = some r ∧ ph_at (fun k => v k = x) r := by
  unfold fX1_slotBearing
  have h := ph_bearing_L hv hx tl_N 0 (by omega) (by unfold tl_N; omega) (fun j hj => absurd hj (Nat.not_lt_zero j))
  rw [show ((0 : Nat) : Int) = (0 : Int) from rfl] at h
  rcases h with ⟨k, h1, h2, h3, h4⟩ | ⟨h1, h4⟩
  · rw [h4]
    exact ⟨_, rfl, Or.inl ⟨k, h1, h2, h3, rfl⟩⟩
  · rw [h4]
    exact ⟨_, rfl, Or.inr ⟨h1, rfl⟩⟩
theorem ph_numberOf {o p : Int} {v : Nat → Int} {k : Nat} (hk : k < 100) : fX1_numberOf o p v (k : Int) = some (v k) := by
  unfold fX1_numberOf
  rw [ps_isSlot1 hk, pr_b, tl_gt (by decide), if_neg (by decide), tl_gt ⟨by omega, by omega⟩, Int.toNat_natCast]
theorem ph_kindOf {o p : Int} {v : Nat → Int} {k : Nat} (hk : k < 100) : fX1_kindOf o p v (k : Int) = some (v k) := by
  unfold fX1_kindOf
  rw [ps_isSlot1 hk, pr_b, tl_gt (by decide), if_neg (by decide), tl_gt ⟨by omega, by omega⟩, Int.toNat_natCast]
theorem ph_slotOf {o p x : Int} {v : Nat → Int} (hv : ∀ k, k < 100 → tl_R (v k)) (hx : tl_R x) : ∃ r, fX1_slotOf o p v x = some r ∧ ph_at (fun k => 0 ≤ x ∧ v k = x) r := by
  unfold fX1_slotOf
  rw [tl_gt hx]
  by_cases h0 : x < 0
  · rw [if_pos h0]
    exact ⟨_, rfl, Or.inr ⟨fun k _ q => by omega, rfl⟩⟩
  · rw [if_neg h0]
    obtain ⟨r, h1, h2⟩ := ph_bearing (o := o) (p := p) hv hx
    rw [h1, pr_b]
    refine ⟨r, rfl, ?_⟩
    rcases h2 with ⟨k, h3, h4, h5, h6⟩ | ⟨h3, h4⟩
    · exact Or.inl ⟨k, h3, ⟨by omega, h4⟩, fun j hj q => h5 j hj q.2, h6⟩
    · exact Or.inr ⟨fun k hk q => h3 k hk q.2, h4⟩
/-! the reference -/
theorem qh_place_L {v u : Nat → Int} {x : Int} (hv : ∀ k, k < 100 → tl_R (v k)) (hu : ∀ k, k < 100 → tl_R (u k)) (hx : tl_R x) :
    ∀ (n i : Nat), i ≤ 100 → 101 ≤ i + n → (∀ j, j < i → ¬ (u j ≠ 0 ∧ v j = x)) →
      (∃ k : Nat, k < 100 ∧ (u k ≠ 0 ∧ v k = x) ∧ (∀ j, j < k → ¬ (u j ≠ 0 ∧ v j = x)) ∧ fX10_placeOf_L1 v u x n (i : Int) = some (.inr (k : Int))) ∨ ((∀ k, k < 100 → ¬ (u k ≠ 0 ∧ v k = x)) ∧ fX10_placeOf_L1 v u x n (i : Int) = some (.inl ())) := by
  intro n
  induction n with
  | zero => intro i h1 h2; omega
  | succ n ih =>
    intro i hi hn hj
    rw [fX10_placeOf_L1, tl_gt ⟨⟨by omega, by omega⟩, by decide⟩]
    by_cases hq : i < 100
    · rw [if_pos (by omega), tl_gt ⟨by omega, by omega⟩, Int.toNat_natCast, tl_gt (hu i hq)]
      have hs : ¬ (u i ≠ 0 ∧ v i = x) → ∀ j, j < i + 1 → ¬ (u j ≠ 0 ∧ v j = x) := fun he j hj2 => by
        by_cases h3 : j = i
        · rw [h3]
          exact he
        · exact hj j (by omega)
      by_cases h0 : u i = 0
      · rw [if_pos h0, show (i : Int) + 1 = ((i + 1 : Nat) : Int) by omega]
        exact ih (i + 1) hq (by omega) (hs (fun q => q.1 h0))
      · rw [if_neg h0, tl_gt ⟨by omega, by omega⟩, tl_gt ⟨hv i hq, hx⟩]
        by_cases he : v i = x
        · rw [if_pos he]
          exact Or.inl ⟨i, hq, ⟨h0, he⟩, hj, rfl⟩
        · rw [if_neg he, show (i : Int) + 1 = ((i + 1 : Nat) : Int) by omega]
          exact ih (i + 1) hq (by omega) (hs (fun q => he q.2))
    · rw [if_neg (by omega)]
      exact Or.inr ⟨fun k hk => hj k (by omega), rfl⟩
theorem qh_place {t l o m pm km lv ra x : Int} {v u : Nat → Int} (hv : ∀ k, k < 100 → tl_R (v k)) (hu : ∀ k, k < 100 → tl_R (u k)) (hx : tl_R x) : ∃ r, fX10_placeOf t l o m pm km lv ra v u x = some r ∧ ph_at (fun k => u k ≠ 0 ∧ v k = x) r := by
  unfold fX10_placeOf
  have h := qh_place_L hv hu hx tl_N 0 (by omega) (by unfold tl_N; omega) (fun j hj => absurd hj (Nat.not_lt_zero j))
  rw [show ((0 : Nat) : Int) = (0 : Int) from rfl] at h
  rcases h with ⟨k, h1, h2, h3, h4⟩ | ⟨h1, h4⟩
  · rw [h4]
    exact ⟨_, rfl, Or.inl ⟨k, h1, h2, h3, rfl⟩⟩
  · rw [h4]
    exact ⟨_, rfl, Or.inr ⟨h1, rfl⟩⟩
/-- the first place that is not used -/
theorem qh_free_L {u : Nat → Int} (hu : ∀ k, k < 100 → tl_R (u k)) {k : Nat} (hk : k < 100) (h0 : u k = 0) (hm : ∀ j, j < k → u j ≠ 0) :
    ∀ (n i : Nat), i ≤ k → k + 1 ≤ i + n → fX10_fresh_L1 u n (i : Int) = some (k : Int) := by
  intro n
  induction n with
  | zero => intro i h1 h2; omega
  | succ n ih =>
    intro i hi hn
    rw [fX10_fresh_L1, tl_gt ⟨by omega, by omega⟩, Int.toNat_natCast, tl_gt (hu i (by omega))]
    by_cases hq : i = k
    · rw [hq, if_pos h0]
    · rw [if_neg (hm i (by omega)), show (i : Int) + 1 = ((i + 1 : Nat) : Int) by omega]
      exact ih (i + 1) (by omega) (by omega)
