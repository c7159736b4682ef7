/-! the reference's measure, in lists -/
def qm_S (S : List Nat) (D : Nat → Int) (many : Int) (queue steps : Nat → Int) : Prop := many = (S.length : Int) ∧ S.Nodup ∧ (∀ x ∈ S, x < 100) ∧ (∀ (i : Nat) (h : i < S.length), queue i = ((S[i] : Nat) : Int)) ∧ (∀ k : Nat, k < 100 → steps k = if k ∈ S then D k else -1) ∧ ∀ k ∈ S, 0 ≤ D k ∧ D k < 1000
theorem qm_S.le {S : List Nat} {D : Nat → Int} {many : Int} {queue steps : Nat → Int} (h : qm_S S D many queue steps) : S.length ≤ 100 := ps_len 100 S h.2.1 h.2.2.1
def qm_ok (p2 : Int) (gone : Nat → Int) (x : Nat) : Bool := decide (p2 = 0 ∨ gone x ≠ 0)
theorem qm_add {S : List Nat} {D : Nat → Int} {many : Int} {queue steps : Nat → Int} (h : qm_S S D many queue steps) {x : Nat} (hx : x < 100) (hm : x ∉ S) (hD : 0 ≤ D x ∧ D x < 1000) : S.length < 100 ∧ qm_S (S ++ [x]) D (many + 1) (va_up queue many.toNat (x : Int)) (va_up steps x (D x)) := by
  obtain ⟨e, hn, hb, hl, hi, hd⟩ := id h
  have hlt : S.length < 100 := by
    have h2 := ps_len 100 (x :: S) (List.nodup_cons.mpr ⟨hm, hn⟩) (fun y hy => (List.mem_cons.mp hy).elim (fun q => by omega) (hb y))
    simp at h2
    omega
  refine ⟨hlt, by rw [e, List.length_append]; simp, ?_, ?_, ?_, ?_, ?_⟩
  · rw [List.nodup_append]
    refine ⟨hn, by simp, ?_⟩
    intro a ha b hb2 he
    simp at hb2
    subst hb2
    exact hm (he ▸ ha)
  · intro y hy
    rcases List.mem_append.mp hy with h1 | h1
    · exact hb y h1
    · simp at h1
      omega
  · intro i hii
    rw [e, Int.toNat_natCast]
    rw [List.length_append, List.length_singleton] at hii
    by_cases hq : i = S.length
    · subst hq
      rw [va_up_self]
      simp
    · rw [va_up_ne _ _ hq, hl i (by omega), List.getElem_append_left]
  · intro j hj
    by_cases hq : j = x
    · subst hq
      rw [va_up_self, if_pos (List.mem_append_right _ (List.mem_singleton.mpr rfl))]
    · rw [va_up_ne _ _ hq, hi j hj]
      by_cases hm2 : j ∈ S
      · rw [if_pos hm2, if_pos (List.mem_append_left _ hm2)]
      · rw [if_neg hm2, if_neg (fun z => (List.mem_append.mp z).elim hm2 (fun z => hq (List.mem_singleton.mp z)))]
  · intro k hk
    rcases List.mem_append.mp hk with h1 | h1
    · exact hd k h1
    · rw [List.mem_singleton.mp h1]
      exact hD
theorem qm_L4 {xs : List Nat} {gone had hadMany x6 : Nat → Int} {p2 x4 far : Int} {l y : Nat} {D : Nat → Int} (hl : l < 10) (hy : y < 100) (hp2 : tl_R p2) (hg : ∀ k, k < 100 → tl_R (gone k)) (e6 : x6 x4.toNat = (y : Int)) (h1 : hadMany (l * 100 + y) = (xs.length : Int)) (h12 : xs.length ≤ 12) (hx : ∀ x ∈ xs, x < 100) (h3 : ∀ (i : Nat) (h : i < xs.length), had ((l * 100 + y) * 12 + i) = ((xs[i] : Nat) : Int)) (hfar : D y + 1 = far) (hfb : 0 ≤ far ∧ far < 1000) :
    ∀ (n i : Nat) (S : List Nat) (many : Int) (queue steps : Nat → Int), i ≤ xs.length → xs.length + 1 ≤ i + n → y ∈ S → (∀ k, k < 100 → k ∉ S → D k = far) → qm_S S D many queue steps →
      ∃ (many' : Int) (queue' steps' : Nat → Int), fX10_measure_L4 gone had hadMany p2 x4 x6 (l : Int) n (i : Int) many queue steps = some (many', queue', steps') ∧ qm_S (pr_addAll S ((xs.drop i).filter (qm_ok p2 gone))) D many' queue' steps' := by
  have er : (((l : Nat) : Int) * (100 : Int) + (y : Int)) = ((l * 100 + y : Nat) : Int) := by omega
  intro n
  induction n with
  | zero => intro i S many queue steps h1 h2; omega
  | succ n ih =>
    intro i S many queue steps hi hn hyS hD hS
    have h100 := hS.le
    rw [fX10_measure_L4, e6, er, tl_gt ⟨by omega, by omega⟩, Int.toNat_natCast, h1, tl_gt ⟨⟨by omega, by omega⟩, ⟨by omega, by omega⟩⟩]
    by_cases hq : i < xs.length
    · have hm := hx _ (List.getElem_mem hq)
      have hst := hS.2.2.2.2.1 xs[i] hm
      have hsy := hS.2.2.2.2.1 y hy
      rw [if_pos hyS] at hsy
      have ei : (i : Int) + 1 = ((i + 1 : Nat) : Int) := by omega
      rw [if_pos (by omega), tl_gt ⟨by omega, by omega⟩, qr_ix, h3 i hq, tl_gt ⟨by omega, by omega⟩, Int.toNat_natCast, Int.toNat_natCast, ei, hst, hsy, hfar, List.drop_eq_getElem_cons hq]
      by_cases hin : xs[i] ∈ S
      · have hb := hS.2.2.2.2.2 _ hin
        rw [if_pos hin, tl_gt ⟨by omega, by omega⟩, if_neg (by omega)]
        have h5 := ih (i + 1) S many queue steps hq (by omega) hyS hD hS
        by_cases hok : qm_ok p2 gone xs[i] = true
        · rw [List.filter_cons_of_pos hok, pr_addAll, if_pos hin]
          exact h5
        · rw [List.filter_cons_of_neg hok]
          exact h5
      · rw [if_neg hin, tl_gt (by decide), if_pos (by decide), tl_gt hp2]
        have hDx := hD _ hm hin
        obtain ⟨hlt, hS2⟩ := qm_add hS hm hin (by rw [hDx]; exact hfb)
        have h5 := ih (i + 1) (S ++ [xs[i]]) _ _ _ hq (by omega) (List.mem_append_left _ hyS) (fun k hk hk2 => hD k hk (fun z => hk2 (List.mem_append_left _ z))) hS2
        rw [hDx] at h5
        have he := hS.1
        by_cases hz : p2 = 0
        · have hok : qm_ok p2 gone xs[i] = true := by simp [qm_ok, hz]
          rw [if_pos hz, tl_gt ⟨by omega, by omega⟩, tl_gt ⟨by omega, by omega⟩, tl_gt ⟨by omega, by omega⟩, List.filter_cons_of_pos hok, pr_addAll, if_neg hin]
          exact h5
        · rw [if_neg hz, tl_gt ⟨by omega, by omega⟩, tl_gt (hg _ hm)]
          by_cases hgz : gone xs[i] = 0
          · have hok : ¬ qm_ok p2 gone xs[i] = true := by simp [qm_ok, hz, hgz]
            rw [if_pos hgz, List.filter_cons_of_neg hok]
            exact ih (i + 1) S many queue steps hq (by omega) hyS hD hS
          · have hok : qm_ok p2 gone xs[i] = true := by simp [qm_ok, hgz]
            rw [if_neg hgz, tl_gt ⟨by omega, by omega⟩, tl_gt ⟨by omega, by omega⟩, tl_gt ⟨by omega, by omega⟩, List.filter_cons_of_pos hok, pr_addAll, if_neg hin]
            exact h5
    · rw [if_neg (by omega), List.drop_eq_nil_of_le (by omega)]
      exact ⟨many, queue, steps, rfl, hS⟩
