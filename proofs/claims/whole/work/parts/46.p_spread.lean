/-! Walk.spread: a search nearest first, in lists -/
def pw_bfs (own : Nat → List Nat) : Nat → Nat → List Nat → (Nat → Int) → List Nat × (Nat → Int)
  | 0, _, S, d => (S, d)
  | n + 1, h, S, d => if q : h < S.length then pw_bfs own n (h + 1) (pr_addAll S (own S[h])) (fun k => if k ∈ (pr_addAll S (own S[h])).drop S.length then d S[h] + 1 else d k) else (S, d)
def pw_spread (own : Nat → List Nat) (p : Nat) : List Nat × (Nat → Int) := pw_bfs own 100 0 [p] (fun _ => 0)
theorem pr_addAll_pre : ∀ (xs S : List Nat), ∃ t, pr_addAll S xs = S ++ t
  | [], S => ⟨[], (List.append_nil S).symm⟩
  | x :: xs, S => by
    obtain ⟨t, h⟩ := pr_addAll_pre xs (if x ∈ S then S else S ++ [x])
    by_cases hx : x ∈ S
    · rw [if_pos hx] at h
      exact ⟨t, by rw [pr_addAll, if_pos hx]; exact h⟩
    · rw [if_neg hx] at h
      exact ⟨x :: t, by rw [pr_addAll, if_neg hx, h, List.append_assoc]; rfl⟩
theorem pw_spread_L {nl : Nat} {rules : Nat → Int} {Rw : Nat → Nat → List Nat} {len : Nat → Int} {w : Nat → Int64} (h : pr_R Rw len w) (hn : nl ≤ 10) (hr : ∀ l, l < nl → tl_R (rules l)) :
    ∀ (n f i : Nat) (S : List Nat) (sl : Int) (ins lst st d : Nat → Int), i + f = 100 → f + 1 ≤ n → i ≤ S.length → ps_S S sl ins lst → (∀ k ∈ S, st k = d k) →
      ∃ (sl' : Int) (ins' lst' st' : Nat → Int), fX8_spread_L1 (nl : Int) rules len w n (i : Int) sl ins lst st = some (sl', ins', lst', st') ∧ ps_S (pw_bfs (pw_own nl rules Rw) f i S d).1 sl' ins' lst' ∧ ∀ k ∈ (pw_bfs (pw_own nl rules Rw) f i S d).1, st' k = (pw_bfs (pw_own nl rules Rw) f i S d).2 k := by
  intro n
  induction n with
  | zero => intro f i S sl ins lst st d h1 h2; omega
  | succ n ih =>
    intro f i S sl ins lst st d hf hfn hi hS hd
    have h100 := hS.le
    have he := hS.1
    rw [fX8_spread_L1]
    unfold fX4_length
    rw [pr_b, tl_gt ⟨⟨by omega, by omega⟩, ⟨by omega, by omega⟩⟩]
    by_cases hq : i < S.length
    · cases f with
      | zero => omega
      | succ f =>
        have hm := hS.2.2.1 _ (List.getElem_mem hq)
        rw [if_pos (by omega), tl_gt ⟨⟨by omega, by omega⟩, by decide⟩, if_pos (by omega), ps_get hS hq, pr_b, pr_b]
        obtain ⟨ins2, lst2, sl2, h1, h2⟩ := pw_addOwning (s := S[i]) h hn hm hr hS
        obtain ⟨t, ht⟩ := pr_addAll_pre (pw_own nl rules Rw S[i]) S
        have hin : S[i] ∈ pr_addAll S (pw_own nl rules Rw S[i]) := by
          rw [ht]
          exact List.mem_append_left _ (List.getElem_mem hq)
        have hle : S.length ≤ (pr_addAll S (pw_own nl rules Rw S[i])).length := by
          rw [ht, List.length_append]
          omega
        obtain ⟨st2, h3, h4⟩ := pw_note h2 (st S[i] + 1) st hle
        rw [h1, pr_b, pw_stepsTo h2 hm, if_pos hin, pr_b, he, h3, pr_b, show (i : Int) + 1 = ((i + 1 : Nat) : Int) by omega]
        rw [pw_bfs, dif_pos hq]
        refine ih f (i + 1) _ sl2 ins2 lst2 st2 _ (by omega) (by omega) (by omega) h2 (fun k hk => ?_)
        rw [h4 k, hd _ (List.getElem_mem hq)]
        by_cases hk2 : k ∈ (pr_addAll S (pw_own nl rules Rw S[i])).drop S.length
        · rw [if_pos hk2, if_pos hk2]
        · rw [if_neg hk2, if_neg hk2]
          refine hd k ?_
          rw [ht, List.drop_left] at hk2
          rw [ht] at hk
          exact (List.mem_append.mp hk).elim id (fun z => absurd z hk2)
    · rw [if_neg (by omega)]
      refine ⟨sl, ins, lst, st, rfl, ?_⟩
      cases f with
      | zero =>
        rw [pw_bfs]
        exact ⟨hS, hd⟩
      | succ f =>
        rw [pw_bfs, dif_neg hq]
        exact ⟨hS, hd⟩
theorem pw_spread_eq {nl : Nat} {rules : Nat → Int} {Rw : Nat → Nat → List Nat} {len : Nat → Int} {w : Nat → Int64} (h : pr_R Rw len w) (hn : nl ≤ 10) (hr : ∀ l, l < nl → tl_R (rules l)) {S : List Nat} {sl : Int} {ins lst : Nat → Int} (hS : ps_S S sl ins lst) (st : Nat → Int) {p : Nat} (hp : p < 100) :
    ∃ (ins' lst' st' : Nat → Int) (sl' : Int), fX8_spread sl ins lst st (nl : Int) rules len w (p : Int) = some (ins', lst', st', sl') ∧ ps_S (pw_spread (pw_own nl rules Rw) p).1 sl' ins' lst' ∧ ∀ k ∈ (pw_spread (pw_own nl rules Rw) p).1, st' k = (pw_spread (pw_own nl rules Rw) p).2 k := by
  obtain ⟨ins1, h1, h2⟩ := ps_clear hS
  obtain ⟨ins2, lst2, sl2, h3, h4⟩ := ps_add (h2 lst) hp
  rw [if_neg (by simp)] at h4
  obtain ⟨st2, h5, h6⟩ := pw_note h4 0 st (i := 0) (Nat.zero_le _)
  rw [show ((0 : Nat) : Int) = (0 : Int) from rfl] at h5
  obtain ⟨sl3, ins3, lst3, st3, h7, h8, h9⟩ := pw_spread_L h hn hr tl_N 100 0 ([] ++ [p]) sl2 ins2 lst2 st2 (fun _ => 0) (by omega) (by unfold tl_N; omega) (Nat.zero_le _) h4 (fun k hk => by
    rw [h6 k, List.drop_zero, if_pos hk])
  rw [show ((0 : Nat) : Int) = (0 : Int) from rfl] at h7
  unfold fX8_spread
  rw [h1, pr_b, h3, pr_b, h5, pr_b, h7, pr_b]
  exact ⟨ins3, lst3, st3, sl3, rfl, h8, h9⟩
