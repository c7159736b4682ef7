/-! what the functions of Slots, Told, Trail say, in lists -/
theorem ps_len : ∀ (n : Nat) (S : List Nat), S.Nodup → (∀ x ∈ S, x < n) → S.length ≤ n
  | 0, S, _, h => by
    cases S with
    | nil => exact Nat.le_refl 0
    | cons a l => exact absurd (h a List.mem_cons_self) (Nat.not_lt_zero a)
  | n + 1, S, hd, h => by
    by_cases hm : n ∈ S
    · have h1 := ps_len n (S.erase n) (hd.erase n) (fun x hx => by
        have h3 := (hd.mem_erase_iff).mp hx
        have h4 := h x h3.2
        have h5 := h3.1
        omega)
      have h2 := List.length_erase_of_mem hm
      omega
    · exact Nat.le_succ_of_le (ps_len n S hd (fun x hx => by
        have h4 := h x hx
        have h5 : x ≠ n := fun e => hm (e ▸ hx)
        omega))
def ps_S (S : List Nat) (len : Int) (ins lst : Nat → Int) : Prop := len = (S.length : Int) ∧ S.Nodup ∧ (∀ x ∈ S, x < 100) ∧ (∀ (i : Nat) (h : i < S.length), lst i = ((S[i] : Nat) : Int)) ∧ ∀ k : Nat, k < 100 → ins k = if k ∈ S then 1 else 0
theorem ps_S.le {S : List Nat} {len : Int} {ins lst : Nat → Int} (h : ps_S S len ins lst) : S.length ≤ 100 := ps_len 100 S h.2.1 h.2.2.1
theorem ps_isSlot {k : Int} (hR : tl_R k) : fX4_isSlot k = some (if 0 ≤ k ∧ k < 100 then 1 else 0) := by
  unfold fX4_isSlot
  rw [tl_gt hR]
  by_cases h1 : k < 0
  · rw [if_pos h1, if_neg (by omega)]
  · rw [if_neg h1, tl_gt ⟨hR, by decide⟩]
    by_cases h2 : k < 100
    · rw [if_pos h2, if_pos (by omega)]
    · rw [if_neg h2, if_neg (by omega)]
theorem ps_isSlot1 {k : Nat} (h : k < 100) : fX4_isSlot (k : Int) = some 1 := by
  rw [ps_isSlot ⟨by omega, by omega⟩, if_pos (by omega)]
theorem ps_get {S : List Nat} {len : Int} {ins lst : Nat → Int} (h : ps_S S len ins lst) {i : Nat} (hi : i < S.length) : fX4_get len lst (i : Int) = some ((S[i] : Nat) : Int) := by
  have hl := h.le
  unfold fX4_get
  rw [tl_gt ⟨by omega, by omega⟩, if_neg (by omega), tl_gt ⟨⟨by omega, by omega⟩, by rw [h.1]; exact ⟨by omega, by omega⟩⟩, if_pos (by rw [h.1]; omega), tl_gt ⟨by omega, by omega⟩]
  rw [show ((i : Int).toNat) = i from Int.toNat_natCast i, h.2.2.2.1 i hi]
theorem ps_holds {S : List Nat} {len : Int} {ins lst : Nat → Int} (h : ps_S S len ins lst) {k : Nat} (hk : k < 100) : fX4_holds len ins (k : Int) = some (if k ∈ S then 1 else 0) := by
  unfold fX4_holds
  rw [ps_isSlot1 hk]
  show tl_gd (tl_R 1) _ = _
  rw [tl_gt (by decide), if_neg (by decide), tl_gt ⟨by omega, by omega⟩, Int.toNat_natCast, h.2.2.2.2 k hk]
  by_cases hm : k ∈ S
  · simp [hm, tl_gd]
  · simp [hm, tl_gd]
theorem ps_add {S : List Nat} {len : Int} {ins lst : Nat → Int} (h : ps_S S len ins lst) {k : Nat} (hk : k < 100) : ∃ (ins' lst' : Nat → Int) (len' : Int), fX4_add len ins lst (k : Int) = some (ins', lst', len') ∧ ps_S (if k ∈ S then S else S ++ [k]) len' ins' lst' := by
  obtain ⟨e, hn, hb, hl, hi⟩ := id h
  have h100 := h.le
  unfold fX4_add
  rw [ps_isSlot1 hk]
  show ∃ (ins' lst' : Nat → Int) (len' : Int), tl_gd (tl_R 1) _ = _ ∧ _
  rw [tl_gt (by decide), if_neg (by decide), tl_gt ⟨by omega, by omega⟩, Int.toNat_natCast, hi k hk]
  by_cases hm : k ∈ S
  · rw [if_pos hm, if_pos hm]
    exact ⟨ins, lst, len, by simp [tl_gd], h⟩
  · have hlt : S.length < 100 := by
      have h2 := ps_len 100 (k :: S) (List.nodup_cons.mpr ⟨hm, hn⟩) (fun x hx => (List.mem_cons.mp hx).elim (fun q => by omega) (hb x))
      simp at h2
      omega
    rw [if_neg hm, if_neg hm]
    rw [tl_gt (by decide), if_pos rfl, tl_gt ⟨⟨by omega, by omega⟩, by decide⟩, if_pos (by omega), tl_gt ⟨⟨by omega, by omega⟩, Or.inr rfl⟩, tl_gt ⟨by omega, by omega⟩]
    refine ⟨_, _, _, rfl, ?_⟩
    refine ⟨by rw [e, List.length_append]; simp, ?_, ?_, ?_, ?_⟩
    · rw [List.nodup_append]
      refine ⟨hn, by simp, ?_⟩
      intro a ha b hb2 he
      simp at hb2
      subst hb2
      exact hm (he ▸ ha)
    · intro x hx
      rcases List.mem_append.mp hx with h1 | h1
      · exact hb x h1
      · simp at h1
        omega
    · intro i hii
      rw [e, Int.toNat_natCast]
      rw [List.length_append, List.length_singleton] at hii
      by_cases hq : i = S.length
      · subst hq
        rw [va_up_self]
        simp
      · rw [va_up_ne _ _ hq, hl i (by omega), List.getElem_append_left]
    · intro j hj
      by_cases hq : j = k
      · subst hq
        rw [va_up_self, if_pos (List.mem_append_right _ (List.mem_singleton.mpr rfl))]
      · rw [va_up_ne _ _ hq, hi j hj]
        by_cases hm2 : j ∈ S
        · rw [if_pos hm2, if_pos (List.mem_append_left _ hm2)]
        · rw [if_neg hm2, if_neg (fun z => (List.mem_append.mp z).elim hm2 (fun z => hq (List.mem_singleton.mp z)))]
theorem ps_clear_L {S : List Nat} {len : Int} {lst : Nat → Int} (hnd : S.Nodup) (e : len = (S.length : Int)) (hb : ∀ x ∈ S, x < 100) (h100 : S.length ≤ 100) (hl : ∀ (i : Nat) (h : i < S.length), lst i = ((S[i] : Nat) : Int)) :
    ∀ (n i : Nat) (x : Nat → Int), i ≤ S.length → S.length + 1 ≤ i + n → (∀ k, k < 100 → x k = if k ∈ S.drop i then 1 else 0) → ∃ x', fX4_clear_L1 len lst n (i : Int) x = some x' ∧ ∀ k, k < 100 → x' k = 0 := by
  intro n
  induction n with
  | zero => intro i x h1 h2; omega
  | succ n ih =>
    intro i x hi hn hx
    rw [fX4_clear_L1]
    rw [tl_gt ⟨⟨by omega, by omega⟩, ⟨by omega, by omega⟩⟩]
    by_cases hq : i < S.length
    · rw [if_pos (by omega), tl_gt ⟨by omega, by omega⟩]
      have hm := hb _ (List.getElem_mem hq)
      rw [Int.toNat_natCast, hl i hq, ps_isSlot1 hm, Option.bind_some, tl_gt (by decide), if_neg (by decide), tl_gt ⟨⟨by omega, by omega⟩, Or.inl rfl⟩, Int.toNat_natCast]
      refine ih (i + 1) _ hq (by omega) (fun k hk => ?_)
      rw [List.drop_eq_getElem_cons hq] at hx
      by_cases hk2 : k = S[i]
      · have h3 : (S.drop i).Nodup := hnd.sublist (List.drop_sublist i S)
        rw [List.drop_eq_getElem_cons hq] at h3
        have h4 := (List.nodup_cons.mp h3).1
        subst hk2
        rw [va_up_self, if_neg h4]
      · rw [va_up_ne _ _ hk2, hx k hk]
        by_cases hm2 : k ∈ S.drop (i + 1)
        · rw [if_pos hm2, if_pos (List.mem_cons_of_mem _ hm2)]
        · rw [if_neg hm2, if_neg (fun z => (List.mem_cons.mp z).elim hk2 hm2)]
    · rw [if_neg (by omega)]
      refine ⟨x, rfl, fun k hk => ?_⟩
      rw [hx k hk, List.drop_eq_nil_of_le (by omega)]
      simp
theorem ps_clear {S : List Nat} {len : Int} {ins lst : Nat → Int} (h : ps_S S len ins lst) : ∃ ins' : Nat → Int, fX4_clear len ins lst = some (ins', 0) ∧ ∀ lst' : Nat → Int, ps_S [] 0 ins' lst' := by
  obtain ⟨e, hn, hb, hl, hi⟩ := id h
  have h100 := h.le
  obtain ⟨x', h1, h2⟩ := ps_clear_L hn e hb h100 hl tl_N 0 ins (Nat.zero_le _) (by unfold tl_N; omega) (fun k hk => by rw [hi k hk]; simp)
  refine ⟨x', ?_, fun lst' => ⟨rfl, List.nodup_nil, fun x hx => (by cases hx), fun i hi2 => absurd hi2 (Nat.not_lt_zero i), fun k hk => by rw [h2 k hk]; simp⟩⟩
  unfold fX4_clear
  rw [show ((0 : Nat) : Int) = (0 : Int) from rfl] at h1
  rw [h1]
  rfl
