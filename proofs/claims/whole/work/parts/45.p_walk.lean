/-! Walk: what a slot owns, in lists -/
def pw_from (rules : Nat → Int) (Rw : Nat → Nat → List Nat) (s : Nat) : Nat → Nat → List Nat
  | 0, _ => []
  | m + 1, l => (if rules l = 1 then Rw l s else []) ++ pw_from rules Rw s m (l + 1)
def pw_own (nl : Nat) (rules : Nat → Int) (Rw : Nat → Nat → List Nat) (s : Nat) : List Nat := pw_from rules Rw s nl 0
theorem pr_addAll_app : ∀ (a S b : List Nat), pr_addAll S (a ++ b) = pr_addAll (pr_addAll S a) b
  | [], _, _ => rfl
  | x :: a, S, b => pr_addAll_app a (if x ∈ S then S else S ++ [x]) b
theorem pw_addOwning_L {nl s : Nat} {rules : Nat → Int} {Rw : Nat → Nat → List Nat} {len : Nat → Int} {w : Nat → Int64} (h : pr_R Rw len w) (hn : nl ≤ 10) (hs : s < 100) (hr : ∀ l, l < nl → tl_R (rules l)) :
    ∀ (n m l : Nat) (S : List Nat) (sl : Int) (ins lst : Nat → Int), l + m = nl → m + 1 ≤ n → ps_S S sl ins lst → ∃ (sl' : Int) (ins' lst' : Nat → Int), fX8_addOwning_L1 (nl : Int) rules len w (s : Int) n (l : Int) sl ins lst = some (sl', ins', lst') ∧ ps_S (pr_addAll S (pw_from rules Rw s m l)) sl' ins' lst' := by
  intro n
  induction n with
  | zero => intro m l S sl ins lst h1 h2; omega
  | succ n ih =>
    intro m l S sl ins lst hlm hn2 hS
    rw [fX8_addOwning_L1]
    unfold fX5_howMany
    rw [pr_b, tl_gt ⟨⟨by omega, by omega⟩, ⟨by omega, by omega⟩⟩]
    cases m with
    | zero =>
      rw [if_neg (by omega)]
      exact ⟨sl, ins, lst, rfl, hS⟩
    | succ m =>
      rw [if_pos (by omega), pt_hasRule hn (by omega) (hr l (by omega)) (by decide), pr_b, show (l : Int) + 1 = ((l + 1 : Nat) : Int) by omega, pw_from, pr_addAll_app]
      by_cases hq : rules l = 1
      · rw [if_pos hq, tl_gt (by decide), if_neg (by decide), if_pos hq]
        obtain ⟨ins2, lst2, sl2, h1, h2⟩ := pr_addTo h (l := l) (s := s) (by omega) hs hS
        rw [h1, pr_b]
        exact ih m (l + 1) _ sl2 ins2 lst2 (by omega) (by omega) h2
      · rw [if_neg hq, tl_gt (by decide), if_pos rfl, if_neg hq]
        exact ih m (l + 1) _ sl ins lst (by omega) (by omega) hS
theorem pw_addOwning {nl s : Nat} {rules : Nat → Int} {Rw : Nat → Nat → List Nat} {len : Nat → Int} {w : Nat → Int64} (h : pr_R Rw len w) (hn : nl ≤ 10) (hs : s < 100) (hr : ∀ l, l < nl → tl_R (rules l)) {S : List Nat} {sl : Int} {ins lst : Nat → Int} (hS : ps_S S sl ins lst) :
    ∃ (ins' lst' : Nat → Int) (sl' : Int), fX8_addOwning (nl : Int) rules len w sl ins lst (s : Int) = some (ins', lst', sl') ∧ ps_S (pr_addAll S (pw_own nl rules Rw s)) sl' ins' lst' := by
  obtain ⟨sl', ins', lst', h1, h2⟩ := pw_addOwning_L h hn hs hr tl_N nl 0 S sl ins lst (by omega) (by unfold tl_N; omega) hS
  rw [show ((0 : Nat) : Int) = (0 : Int) from rfl] at h1
  unfold fX8_addOwning
  rw [h1, pr_b]
  exact ⟨ins', lst', sl', rfl, h2⟩
theorem pw_stepsTo {S : List Nat} {sl : Int} {ins lst st : Nat → Int} (hS : ps_S S sl ins lst) {k : Nat} (hk : k < 100) : fX8_stepsTo sl ins st (k : Int) = some (if k ∈ S then st k else -1) := by
  unfold fX8_stepsTo
  rw [ps_holds hS hk, pr_b]
  by_cases hm : k ∈ S
  · rw [if_pos hm, if_pos hm, tl_gt (by decide), if_neg (by decide), tl_gt ⟨by omega, by omega⟩, Int.toNat_natCast]
  · rw [if_neg hm, if_neg hm, tl_gt (by decide), if_pos rfl]
theorem pw_note_L {S : List Nat} {sl : Int} {ins lst : Nat → Int} (hS : ps_S S sl ins lst) (far : Int) :
    ∀ (n i : Nat) (st : Nat → Int), i ≤ S.length → S.length + 1 ≤ i + n → ∃ st', fX8_noteSteps_L1 sl lst far n (i : Int) st = some st' ∧ ∀ k, st' k = if k ∈ S.drop i then far else st k := by
  have h100 := hS.le
  have he := hS.1
  intro n
  induction n with
  | zero => intro i st h1 h2; omega
  | succ n ih =>
    intro i st hi hn
    rw [fX8_noteSteps_L1]
    unfold fX4_length
    rw [pr_b, tl_gt ⟨⟨by omega, by omega⟩, ⟨by omega, by omega⟩⟩]
    by_cases hq : i < S.length
    · have hm := hS.2.2.1 _ (List.getElem_mem hq)
      rw [if_pos (by omega), ps_get hS hq, pr_b, ps_isSlot1 hm, pr_b, tl_gt (by decide), if_neg (by decide), tl_gt ⟨by omega, by omega⟩, Int.toNat_natCast, show (i : Int) + 1 = ((i + 1 : Nat) : Int) by omega]
      obtain ⟨st', h1, h2⟩ := ih (i + 1) (va_up st S[i] far) hq (by omega)
      refine ⟨st', h1, fun k => ?_⟩
      rw [h2 k, List.drop_eq_getElem_cons hq]
      by_cases h3 : k ∈ S.drop (i + 1)
      · rw [if_pos h3, if_pos (List.mem_cons_of_mem _ h3)]
      · rw [if_neg h3]
        by_cases h4 : k = S[i]
        · rw [h4, va_up_self, if_pos List.mem_cons_self]
        · rw [va_up_ne _ _ h4, if_neg (fun z => (List.mem_cons.mp z).elim h4 h3)]
    · rw [if_neg (by omega), List.drop_eq_nil_of_le (by omega)]
      exact ⟨st, rfl, fun k => by simp⟩
theorem pw_note {S : List Nat} {sl : Int} {ins lst : Nat → Int} (hS : ps_S S sl ins lst) (far : Int) (st : Nat → Int) {i : Nat} (hi : i ≤ S.length) : ∃ st', fX8_noteSteps sl lst st (i : Int) far = some st' ∧ ∀ k, st' k = if k ∈ S.drop i then far else st k := by
  obtain ⟨st', h1, h2⟩ := pw_note_L hS far tl_N i st hi (by unfold tl_N; have := hS.le; omega)
  unfold fX8_noteSteps
  rw [h1, pr_b]
  exact ⟨st', rfl, h2⟩
