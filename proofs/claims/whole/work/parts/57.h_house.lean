/-! houses: who is there, numbers, kinds, rows of what is had and of those that have -/
def hs_sum (f : Nat → Nat) : Nat → Nat
  | 0 => 0
  | n + 1 => hs_sum f n + f n
theorem hs_sum_eq {f g : Nat → Nat} : ∀ (n : Nat), (∀ k, k < n → f k = g k) → hs_sum f n = hs_sum g n
  | 0, _ => rfl
  | n + 1, h => by
    rw [hs_sum, hs_sum, hs_sum_eq n (fun k hk => h k (by omega)), h n (by omega)]
theorem hs_sum_one {f g : Nat → Nat} {i : Nat} : ∀ (n : Nat), i < n → (∀ k, k < n → k ≠ i → f k = g k) → hs_sum f n + g i = hs_sum g n + f i
  | 0, h, _ => by omega
  | n + 1, h, e => by
    rw [hs_sum, hs_sum]
    by_cases q : i = n
    · subst q
      rw [hs_sum_eq i (fun k hk => e k (by omega) (by omega))]
      omega
    · have := hs_sum_one n (by omega) (fun k hk => e k (by omega))
      rw [e n (by omega) (fun z => q z.symm)]
      omega
def hs_n (U : Nat → Bool) : Nat := hs_sum (fun k => if U k = true then 1 else 0) 100
def hs_p (w : Nat → Nat → List Nat) : Nat := hs_sum (fun l => hs_sum (fun s => (w l s).length) 100) 10
theorem pr_set_at (w : Nat → Nat → List Nat) (l s : Nat) (xs : List Nat) : pr_set w l s xs l s = xs := by
  unfold pr_set
  rw [if_pos ⟨rfl, rfl⟩]
theorem pr_set_ne (w : Nat → Nat → List Nat) {l s l2 s2 : Nat} (xs : List Nat) (h : ¬ (l2 = l ∧ s2 = s)) : pr_set w l s xs l2 s2 = w l2 s2 := by
  unfold pr_set
  rw [if_neg h]
theorem pr_set_self (w : Nat → Nat → List Nat) (l s : Nat) : pr_set w l s (w l s) = w := by
  funext l2 s2
  by_cases h : l2 = l ∧ s2 = s
  · obtain ⟨rfl, rfl⟩ := h
    exact pr_set_at _ _ _ _
  · exact pr_set_ne _ _ h
theorem hs_p_set (w : Nat → Nat → List Nat) {l s : Nat} (xs : List Nat) (hl : l < 10) (hs : s < 100) : hs_p (pr_set w l s xs) + (w l s).length = hs_p w + xs.length := by
  have h1 := hs_sum_one (f := fun s2 => (pr_set w l s xs l s2).length) (g := fun s2 => (w l s2).length) (i := s) 100 hs (fun k _ hk => by
    show (pr_set w l s xs l k).length = _
    rw [pr_set_ne _ _ (fun z => hk z.2)])
  have h2 := hs_sum_one (f := fun l2 => hs_sum (fun s2 => (pr_set w l s xs l2 s2).length) 100) (g := fun l2 => hs_sum (fun s2 => (w l2 s2).length) 100) (i := l) 10 hl (fun k _ hk => hs_sum_eq 100 (fun s2 _ => by rw [pr_set_ne _ _ (fun z => hk z.1)]))
  simp only [pr_set_at] at h1
  unfold hs_p
  omega
theorem pr_wo_none {y : Nat} {xs : List Nat} (h : y ∉ xs) : pr_wo y xs = xs := List.filter_eq_self.mpr (fun x hx => by
  have : x ≠ y := fun e => h (e ▸ hx)
  simpa using this)
theorem pr_wo_len {y : Nat} {xs : List Nat} (hn : xs.Nodup) (h : y ∈ xs) : (pr_wo y xs).length + 1 = xs.length := by
  rw [← qr_same hn]
  have := List.length_eraseIdx_of_lt (List.idxOf_lt_length_of_mem h)
  have := List.length_pos_of_mem h
  omega
theorem pr_mem_wo {x y : Nat} {xs : List Nat} : x ∈ pr_wo y xs ↔ x ∈ xs ∧ x ≠ y := by
  unfold pr_wo
  rw [List.mem_filter]
  simp
def hs_cut (w : Nat → Nat → List Nat) (l x y : Nat) : Nat → Nat → List Nat := pr_set w l x (pr_wo y (w l x))
def hs_put (w : Nat → Nat → List Nat) (l x i y : Nat) : Nat → Nat → List Nat := pr_set w l x ((w l x).take i ++ y :: (w l x).drop i)
def hc_R (U : Nat → Bool) (nu ki : Nat → Int) (w d : Nat → Nat → List Nat) (ob pa : Int) (dl : Nat → Int) (dw : Nat → Int64) (hl : Nat → Int) (hw : Nat → Int64) (kk nn : Nat → Int) : Prop := ob = (hs_n U : Int) ∧ pa = (hs_p w : Int) ∧ pr_R d dl dw ∧ pr_R w hl hw ∧ (∀ k, k < 100 → tl_R (kk k) ∧ (U k = true → kk k = ki k)) ∧ ∀ k, k < 100 → nn k = if U k = true then nu k else -1
def qu_R (U : Nat → Bool) (w : Nat → Nat → List Nat) (many row : Nat → Int) : Prop := ∃ Rw, qr_R Rw many row ∧ ∀ l s, l < 10 → s < 100 → U s = true → Rw l s = w l s
def hq_R (U : Nat → Bool) (nu ki : Nat → Int) (w d : Nat → Nat → List Nat) (ob : Int) (had hadMany has hasMany kind number used : Nat → Int) : Prop := ob = (hs_n U : Int) ∧ qu_R U d hadMany had ∧ qu_R U w hasMany has ∧ (∀ k, k < 100 → tl_R (kind k) ∧ (U k = true → kind k = ki k)) ∧ (∀ k, k < 100 → tl_R (number k) ∧ (U k = true → number k = nu k)) ∧ ∀ k, k < 100 → used k = if U k = true then 1 else 0
theorem hc_sep {w d : Nat → Nat → List Nat} {ob pa : Int} {dl : Nat → Int} {dw : Nat → Int64} {hl : Nat → Int} {hw : Nat → Int64} {l x y : Nat} (hd : pr_R d dl dw) (hh : pr_R w hl hw) (hl10 : l < 10) (hx : x < 100) (hy : y < 100) (hn : (w l x).Nodup) (tw : y ∈ w l x ↔ x ∈ d l y) (hp : pa = (hs_p w : Int)) :
    ∃ (dl' : Nat → Int) (dw' : Nat → Int64) (hl' : Nat → Int) (hw' : Nat → Int64) (pa' : Int), fX1_separate ob pa dl dw hl hw (l : Int) (x : Int) (y : Int) = some (if y ∈ w l x then 1 else 0, dl', dw', hl', hw', pa') ∧ pr_R (hs_cut d l y x) dl' dw' ∧ pr_R (hs_cut w l x y) hl' hw' ∧ pa' = (hs_p (hs_cut w l x y) : Int) := by
  obtain ⟨hw1, h1, h2⟩ := pr_remove (o := y) hh hl10 hx hy
  obtain ⟨dw1, h3, h4⟩ := pr_remove (o := x) hd hl10 hy hx
  unfold fX1_separate
  rw [h1, pr_b]
  by_cases q : y ∈ w l x
  · rw [if_pos q]
    dsimp only
    rw [tl_gt (by decide), if_neg (by decide), h3, pr_b]
    refine ⟨_, dw1, _, hw1, pa - 1, rfl, h4, h2, ?_⟩
    have h5 := hs_p_set w (pr_wo y (w l x)) hl10 hx
    have h6 := pr_wo_len hn q
    unfold hs_cut
    omega
  · have hq := fun z => q (tw.mpr z)
    rw [if_neg q]
    dsimp only
    rw [tl_gt (by decide), if_pos rfl]
    refine ⟨dl, dw, _, hw1, pa, rfl, ?_, h2, ?_⟩
    · unfold hs_cut
      rw [pr_wo_none hq, pr_set_self]
      exact hd
    · unfold hs_cut
      rw [pr_wo_none q, pr_set_self]
      exact hp
theorem pr_append {Rw : Nat → Nat → List Nat} {len : Nat → Int} {w : Nat → Int64} (h : pr_R Rw len w) {l s o : Nat} (hl : l < 10) (hs : s < 100) (ho : o < 100) (h12 : (Rw l s).length < 12) : ∃ (len' : Nat → Int) (w' : Nat → Int64), fX3_append len w (l : Int) (s : Int) (o : Int) = some (len', w') ∧ pr_R (pr_set Rw l s (Rw l s ++ [o])) len' w' := by
  obtain ⟨w', h1, h2⟩ := pr_insert (i := (Rw l s).length) h hl hs ho (Nat.le_refl _) h12
  unfold fX3_append
  rw [pr_lengthOf h hl hs, pr_b, h1, pr_b]
  refine ⟨_, w', rfl, ?_⟩
  have e : (Rw l s).take (Rw l s).length ++ o :: (Rw l s).drop (Rw l s).length = Rw l s ++ [o] := by
    rw [List.take_length, List.drop_length]
  rw [e] at h2 ⊢
  exact h2
theorem hc_join {w d : Nat → Nat → List Nat} {ob pa : Int} {dl : Nat → Int} {dw : Nat → Int64} {hl : Nat → Int} {hw : Nat → Int64} {l x y i : Nat} (hd : pr_R d dl dw) (hh : pr_R w hl hw) (hl10 : l < 10) (hx : x < 100) (hy : y < 100) (hi : i ≤ (w l x).length) (h12 : (w l x).length < 12) (hd12 : (d l y).length < 12) (hp : pa = (hs_p w : Int)) :
    ∃ (dl' : Nat → Int) (dw' : Nat → Int64) (hl' : Nat → Int) (hw' : Nat → Int64) (pa' : Int), fX1_join ob pa dl dw hl hw (l : Int) (x : Int) (y : Int) (i : Int) = some (dl', dw', hl', hw', pa') ∧ pr_R (pr_set d l y (d l y ++ [x])) dl' dw' ∧ pr_R (hs_put w l x i y) hl' hw' ∧ pa' = (hs_p (hs_put w l x i y) : Int) := by
  obtain ⟨hw1, h1, h2⟩ := pr_insert (o := y) hh hl10 hx hy hi h12
  obtain ⟨dl1, dw1, h3, h4⟩ := pr_append (o := x) hd hl10 hy hx hd12
  unfold fX1_join
  rw [h1, pr_b, h3, pr_b]
  refine ⟨dl1, dw1, _, hw1, pa + 1, rfl, h4, h2, ?_⟩
  have h5 := hs_p_set w ((w l x).take i ++ y :: (w l x).drop i) hl10 hx
  have h6 : ((w l x).take i ++ y :: (w l x).drop i).length = (w l x).length + 1 := by
    rw [List.length_append, List.length_take, List.length_cons, List.length_drop]
    omega
  unfold hs_put
  omega
