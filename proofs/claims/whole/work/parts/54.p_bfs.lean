/-! what the search nearest first has found: all that can be reached, by shortest ways -/
def pw_I (own : Nat → List Nat) (p i : Nat) (S : List Nat) (d : Nat → Int) : Prop := (S.Nodup) ∧ (∃ h : 0 < S.length, S[0] = p) ∧ (d p = 0) ∧ (∀ x ∈ S, x = p ∨ ∃ y ∈ S, x ∈ own y ∧ d x = d y + 1) ∧ (∀ (j : Nat) (h : j < S.length), d S[j] ≤ (j : Int)) ∧ (∀ (j k : Nat) (hj : j < S.length) (hk : k < S.length), j ≤ k → d S[j] ≤ d S[k]) ∧ (∀ (k : Nat) (h : k < S.length) (hi : i < S.length), d S[k] ≤ d S[i] + 1) ∧ (∀ (j : Nat) (h : j < S.length), j < i → ∀ y ∈ own S[j], y ∈ S ∧ d y ≤ d S[j] + 1)
theorem pw_I.nd {own : Nat → List Nat} {p i : Nat} {S : List Nat} {d : Nat → Int} (h : pw_I own p i S d) : S.Nodup := h.1
theorem pw_I.h0 {own : Nat → List Nat} {p i : Nat} {S : List Nat} {d : Nat → Int} (h : pw_I own p i S d) : ∃ h : 0 < S.length, S[0] = p := h.2.1
theorem pw_I.d0 {own : Nat → List Nat} {p i : Nat} {S : List Nat} {d : Nat → Int} (h : pw_I own p i S d) : d p = 0 := h.2.2.1
theorem pw_I.fr {own : Nat → List Nat} {p i : Nat} {S : List Nat} {d : Nat → Int} (h : pw_I own p i S d) : ∀ x ∈ S, x = p ∨ ∃ y ∈ S, x ∈ own y ∧ d x = d y + 1 := h.2.2.2.1
theorem pw_I.le {own : Nat → List Nat} {p i : Nat} {S : List Nat} {d : Nat → Int} (h : pw_I own p i S d) : ∀ (j : Nat) (h : j < S.length), d S[j] ≤ (j : Int) := h.2.2.2.2.1
theorem pw_I.mo {own : Nat → List Nat} {p i : Nat} {S : List Nat} {d : Nat → Int} (h : pw_I own p i S d) : ∀ (j k : Nat) (hj : j < S.length) (hk : k < S.length), j ≤ k → d S[j] ≤ d S[k] := h.2.2.2.2.2.1
theorem pw_I.up {own : Nat → List Nat} {p i : Nat} {S : List Nat} {d : Nat → Int} (h : pw_I own p i S d) : ∀ (k : Nat) (h : k < S.length) (hi : i < S.length), d S[k] ≤ d S[i] + 1 := h.2.2.2.2.2.2.1
theorem pw_I.cl {own : Nat → List Nat} {p i : Nat} {S : List Nat} {d : Nat → Int} (h : pw_I own p i S d) : ∀ (j : Nat) (h : j < S.length), j < i → ∀ y ∈ own S[j], y ∈ S ∧ d y ≤ d S[j] + 1 := h.2.2.2.2.2.2.2
theorem pw_I.step {own : Nat → List Nat} {p i : Nat} {S t : List Nat} {d d' : Nat → Int} (h : pw_I own p i S d) (hi : i < S.length) (hn : (S ++ t).Nodup) (h1 : ∀ x ∈ t, x ∈ own S[i]) (h2 : ∀ x ∈ own S[i], x ∈ S ++ t) (e1 : ∀ x ∈ S, d' x = d x) (e2 : ∀ x ∈ t, d' x = d S[i] + 1) : pw_I own p (i + 1) (S ++ t) d' := by
  obtain ⟨h00, h01⟩ := h.h0
  have hle : S.length ≤ (S ++ t).length := by
    rw [List.length_append]
    omega
  have g1 : ∀ (j : Nat) (hj : j < S.length) (hj2 : j < (S ++ t).length), d' (S ++ t)[j] = d S[j] := by
    intro j hj hj2
    rw [List.getElem_append_left hj]
    exact e1 _ (List.getElem_mem hj)
  have g2 : ∀ (j : Nat) (hj : S.length ≤ j) (hj2 : j < (S ++ t).length), d' (S ++ t)[j] = d S[i] + 1 := by
    intro j hj hj2
    rw [List.getElem_append_right hj]
    exact e2 _ (List.getElem_mem _)
  have hp : p ∈ S := by
    rw [← h01]
    exact List.getElem_mem h00
  refine ⟨hn, ⟨by omega, by rw [List.getElem_append_left h00]; exact h01⟩, by rw [e1 p hp]; exact h.d0, ?_, ?_, ?_, ?_, ?_⟩
  · intro x hx
    rcases List.mem_append.mp hx with q | q
    · rcases h.fr x q with r | ⟨y, r1, r2, r3⟩
      · exact Or.inl r
      · exact Or.inr ⟨y, List.mem_append_left _ r1, r2, by rw [e1 x q, e1 y r1]; exact r3⟩
    · exact Or.inr ⟨S[i], List.mem_append_left _ (List.getElem_mem hi), h1 x q, by rw [e2 x q, e1 _ (List.getElem_mem hi)]⟩
  · intro j hj
    by_cases q : j < S.length
    · rw [g1 j q hj]
      exact h.le j q
    · rw [g2 j (by omega) hj]
      have := h.le i hi
      omega
  · intro j k hj hk hjk
    by_cases q : k < S.length
    · rw [g1 j (by omega) hj, g1 k q hk]
      exact h.mo j k (by omega) q hjk
    · rw [g2 k (by omega) hk]
      by_cases r : j < S.length
      · rw [g1 j r hj]
        exact h.up j r hi
      · rw [g2 j (by omega) hj]
        exact Int.le_refl _
  · intro k hk hi2
    have a : d' (S ++ t)[k] ≤ d S[i] + 1 := by
      by_cases q : k < S.length
      · rw [g1 k q hk]
        exact h.up k q hi
      · rw [g2 k (by omega) hk]
        exact Int.le_refl _
    have b : d S[i] ≤ d' (S ++ t)[i + 1] := by
      by_cases q : i + 1 < S.length
      · rw [g1 _ q hi2]
        exact h.mo i (i + 1) hi q (by omega)
      · rw [g2 _ (by omega) hi2]
        omega
    omega
  · intro j hj hji y hy
    have hjS : j < S.length := by omega
    rw [g1 j hjS hj]
    rw [List.getElem_append_left hjS] at hy
    by_cases q : j < i
    · obtain ⟨r1, r2⟩ := h.cl j hjS q y hy
      exact ⟨List.mem_append_left _ r1, by rw [e1 y r1]; exact r2⟩
    · have hji2 : j = i := by omega
      subst hji2
      have hm := h2 y hy
      refine ⟨hm, ?_⟩
      rcases List.mem_append.mp hm with q2 | q2
      · rw [e1 y q2]
        obtain ⟨m, hm1, hm2⟩ := List.getElem_of_mem q2
        rw [← hm2]
        exact h.up m hm1 hi
      · rw [e2 y q2]
        exact Int.le_refl _
theorem pr_addAll_nd : ∀ (xs S : List Nat), S.Nodup → (pr_addAll S xs).Nodup
  | [], _, h => h
  | x :: xs, S, h => by
    rw [pr_addAll]
    refine pr_addAll_nd xs _ ?_
    by_cases hx : x ∈ S
    · rw [if_pos hx]
      exact h
    · rw [if_neg hx, List.nodup_append]
      refine ⟨h, by simp, ?_⟩
      intro a ha b hb he
      rw [List.mem_singleton.mp hb] at he
      exact hx (he ▸ ha)
theorem pw_bfs_I {own : Nat → List Nat} {p : Nat} (hb : ∀ x, x < 100 → ∀ y ∈ own x, y < 100) : ∀ (f i : Nat) (S : List Nat) (d : Nat → Int), i + f = 100 → (∀ x ∈ S, x < 100) → pw_I own p i S d → ∃ j, (pw_bfs own f i S d).1.length ≤ j ∧ pw_I own p j (pw_bfs own f i S d).1 (pw_bfs own f i S d).2 ∧ ∀ x ∈ (pw_bfs own f i S d).1, x < 100 := by
  intro f
  induction f with
  | zero =>
    intro i S d hi hS h
    have := ps_len 100 S h.nd hS
    exact ⟨i, by show S.length ≤ i; omega, h, hS⟩
  | succ f ih =>
    intro i S d hi hS h
    rw [pw_bfs]
    by_cases q : i < S.length
    · rw [dif_pos q]
      obtain ⟨t, ht⟩ := pr_addAll_pre (own S[i]) S
      have hnd := pr_addAll_nd (own S[i]) S h.nd
      have hmem : ∀ x, x ∈ pr_addAll S (own S[i]) ↔ x ∈ S ∨ x ∈ own S[i] := fun x => pr_mem_addAll _ _
      have hlt := hS _ (List.getElem_mem q)
      rw [ht] at hnd hmem ⊢
      rw [List.drop_left]
      have hdis := (List.nodup_append.mp hnd).2.2
      have hall : ∀ x ∈ S ++ t, x < 100 := fun x hx => ((hmem x).mp hx).elim (hS x) (hb _ hlt x)
      refine ih (i + 1) (S ++ t) _ (by omega) hall ?_
      refine h.step q hnd (fun x hx => ?_) (fun x hx => (hmem x).mpr (Or.inr hx)) (fun x hx => ?_) (fun x hx => ?_)
      · rcases (hmem x).mp (List.mem_append_right _ hx) with r | r
        · exact absurd rfl (hdis x r x hx)
        · exact r
      · rw [if_neg (fun z => hdis x hx x z rfl)]
      · rw [if_pos hx]
    · rw [dif_neg q]
      exact ⟨i, by show S.length ≤ i; omega, h, hS⟩
/-- all that the search has found, whole -/
def pw_F (own : Nat → List Nat) (p : Nat) (S : List Nat) (d : Nat → Int) : Prop := (S.Nodup) ∧ (∀ x ∈ S, x < 100) ∧ (p ∈ S) ∧ (d p = 0) ∧ (∀ x ∈ S, x = p ∨ ∃ y ∈ S, x ∈ own y ∧ d x = d y + 1) ∧ (∀ x ∈ S, 0 ≤ d x) ∧ (∀ x ∈ S, d x < (S.length : Int)) ∧ (∀ x ∈ S, ∀ y ∈ own x, y ∈ S ∧ d y ≤ d x + 1)
theorem pw_F.nd {own : Nat → List Nat} {p : Nat} {S : List Nat} {d : Nat → Int} (h : pw_F own p S d) : S.Nodup := h.1
theorem pw_F.lt {own : Nat → List Nat} {p : Nat} {S : List Nat} {d : Nat → Int} (h : pw_F own p S d) : ∀ x ∈ S, x < 100 := h.2.1
theorem pw_F.h0 {own : Nat → List Nat} {p : Nat} {S : List Nat} {d : Nat → Int} (h : pw_F own p S d) : p ∈ S := h.2.2.1
theorem pw_F.d0 {own : Nat → List Nat} {p : Nat} {S : List Nat} {d : Nat → Int} (h : pw_F own p S d) : d p = 0 := h.2.2.2.1
theorem pw_F.fr {own : Nat → List Nat} {p : Nat} {S : List Nat} {d : Nat → Int} (h : pw_F own p S d) : ∀ x ∈ S, x = p ∨ ∃ y ∈ S, x ∈ own y ∧ d x = d y + 1 := h.2.2.2.2.1
theorem pw_F.ge {own : Nat → List Nat} {p : Nat} {S : List Nat} {d : Nat → Int} (h : pw_F own p S d) : ∀ x ∈ S, 0 ≤ d x := h.2.2.2.2.2.1
theorem pw_F.le {own : Nat → List Nat} {p : Nat} {S : List Nat} {d : Nat → Int} (h : pw_F own p S d) : ∀ x ∈ S, d x < (S.length : Int) := h.2.2.2.2.2.2.1
theorem pw_F.cl {own : Nat → List Nat} {p : Nat} {S : List Nat} {d : Nat → Int} (h : pw_F own p S d) : ∀ x ∈ S, ∀ y ∈ own x, y ∈ S ∧ d y ≤ d x + 1 := h.2.2.2.2.2.2.2
theorem pw_spread_F {own : Nat → List Nat} {p : Nat} (hb : ∀ x, x < 100 → ∀ y ∈ own x, y < 100) (hp : p < 100) : pw_F own p (pw_spread own p).1 (pw_spread own p).2 := by
  have h0 : pw_I own p 0 [p] (fun _ => 0) := by
    refine ⟨by simp, ⟨by simp, rfl⟩, rfl, fun x hx => Or.inl (List.mem_singleton.mp hx), fun j hj => (by omega : (0 : Int) ≤ (j : Int)), fun j k _ _ _ => Int.le_refl _, fun k _ _ => by simp, fun j _ hj => by omega⟩
  obtain ⟨j, h1, h2, h3⟩ := pw_bfs_I hb 100 0 [p] (fun _ => 0) (by omega) (fun x hx => by rw [List.mem_singleton.mp hx]; exact hp) h0
  have h1' : (pw_spread own p).1.length ≤ j := h1
  have h2' : pw_I own p j (pw_spread own p).1 (pw_spread own p).2 := h2
  obtain ⟨h4, h5⟩ := h2'.h0
  refine ⟨h2'.nd, h3, (by have z := List.getElem_mem h4; rw [h5] at z; exact z), h2'.d0, h2'.fr, ?_, ?_, ?_⟩
  · intro x hx
    obtain ⟨m, hm1, hm2⟩ := List.getElem_of_mem hx
    have := h2'.mo 0 m h4 hm1 (Nat.zero_le _)
    rw [h5, h2'.d0, hm2] at this
    exact this
  · intro x hx
    obtain ⟨m, hm1, hm2⟩ := List.getElem_of_mem hx
    have := h2'.le m hm1
    rw [hm2] at this
    omega
  · intro x hx y hy
    obtain ⟨m, hm1, hm2⟩ := List.getElem_of_mem hx
    have := h2'.cl m hm1 (by omega) y (by rw [hm2]; exact hy)
    rw [hm2] at this
    exact this
