/-! copy: the old ones, in the order of their numbers -/
def hk_so (nu : Nat → Int) (A : List Nat) : Prop := A.Pairwise (fun a b => nu a < nu b)
theorem hk_uniq {nu : Nat → Int} : ∀ (A B : List Nat), hk_so nu A → hk_so nu B → (∀ x, x ∈ A ↔ x ∈ B) → A = B
  | [], B, _, _, h => by
    cases B with
    | nil => rfl
    | cons b B => exact absurd ((h b).mpr List.mem_cons_self) (by simp)
  | a :: A, B, hA, hB, h => by
    cases B with
    | nil => exact absurd ((h a).mp List.mem_cons_self) (by simp)
    | cons b B =>
      have hA2 := List.pairwise_cons.mp hA
      have hB2 := List.pairwise_cons.mp hB
      have e : a = b := by
        rcases List.mem_cons.mp ((h a).mp List.mem_cons_self) with q | q
        · exact q
        · rcases List.mem_cons.mp ((h b).mpr List.mem_cons_self) with r | r
          · exact r.symm
          · have h1 := hB2.1 a q
            have h2 := hA2.1 b r
            omega
      subst e
      rw [hk_uniq A B hA2.2 hB2.2 (fun x => ?_)]
      constructor
      · intro hx
        rcases List.mem_cons.mp ((h x).mp (List.mem_cons_of_mem _ hx)) with q | q
        · have := hA2.1 x hx
          rw [q] at this
          omega
        · exact q
      · intro hx
        rcases List.mem_cons.mp ((h x).mpr (List.mem_cons_of_mem _ hx)) with q | q
        · have := hB2.1 x hx
          rw [q] at this
          omega
        · exact q
theorem hk_len : ∀ (A F : List Nat), A.Nodup → (∀ x ∈ A, x ∈ F) → A.length ≤ F.length
  | [], _, _, _ => Nat.zero_le _
  | a :: A, F, hA, h => by
    have hA2 := List.nodup_cons.mp hA
    have h1 := h a List.mem_cons_self
    have h2 := List.length_erase_of_mem h1
    have h3 := List.length_pos_of_mem h1
    have h4 := hk_len A (F.erase a) hA2.2 (fun x hx => by
      have hne : x ≠ a := fun e => hA2.1 (by rw [← e]; exact hx)
      exact (List.mem_erase_of_ne hne).mpr (h x (List.mem_cons_of_mem _ hx)))
    rw [List.length_cons]
    omega
theorem hk_so_app {nu : Nat → Int} {A : List Nat} {x : Nat} (h : hk_so nu A) (hx : ∀ a ∈ A, nu a < nu x) : hk_so nu (A ++ [x]) := by
  unfold hk_so
  rw [List.pairwise_append]
  refine ⟨h, by simp, fun a ha b hb => ?_⟩
  rw [List.mem_singleton.mp hb]
  exact hx a ha
theorem hk_miss_L {A F : List Nat} {al fl o p : Int} {ai as fi fs cn : Nat → Int} (hA : ps_S A al ai as) (hF : ps_S F fl fi fs) (hc : ∀ k, k < 100 → tl_R (cn k)) :
    ∀ (n i : Nat) (b : Int), i ≤ F.length → F.length + 1 ≤ i + n → (b = -1 ∨ ∃ k : Nat, k < 100 ∧ b = (k : Int)) → fX7_leastMissing_L1 al ai o p cn fl fs n (i : Int) b = some (pl_fold (fun x => x ∉ A) cn b (F.drop i)) := by
  have h100 := hF.le
  have he := hF.1
  intro n
  induction n with
  | zero => intro i b h1 h2; omega
  | succ n ih =>
    intro i b hi hn2 hb
    rw [fX7_leastMissing_L1]
    unfold fX4_length
    rw [pr_b, tl_gt ⟨⟨by omega, by omega⟩, ⟨by omega, by omega⟩⟩]
    by_cases hq : i < F.length
    · have hm := hF.2.2.1 _ (List.getElem_mem hq)
      rw [if_pos (by omega), ps_get hF hq, pr_b, ps_holds hA hm, pr_b, show (i : Int) + 1 = ((i + 1 : Nat) : Int) by omega, List.drop_eq_getElem_cons hq, pl_fold]
      unfold pl_step
      by_cases hP : F[i] ∈ A
      · rw [if_pos hP, tl_gt (by decide), if_neg (by decide), pr_b, tl_gt (by decide), if_pos rfl, if_neg (fun z => z.1 hP)]
        exact ih (i + 1) _ hq (by omega) hb
      · rw [if_neg hP, tl_gt (by decide), if_pos rfl, pr_b, tl_gt (by decide), if_neg (by decide)]
        rcases hb with rfl | ⟨k, hk, rfl⟩
        · rw [tl_gt (by decide), if_pos rfl, if_pos ⟨hP, Or.inl (by decide)⟩]
          exact ih (i + 1) _ hq (by omega) (Or.inr ⟨_, hm, rfl⟩)
        · rw [tl_gt ⟨⟨by omega, by omega⟩, by decide⟩, if_neg (by omega), ph_numberOf hm, pr_b, ph_numberOf hk, pr_b, tl_gt ⟨hc _ hm, hc _ hk⟩, Int.toNat_natCast]
          by_cases hlt : cn F[i] < cn k
          · rw [if_pos hlt, if_pos ⟨hP, Or.inr hlt⟩]
            exact ih (i + 1) _ hq (by omega) (Or.inr ⟨_, hm, rfl⟩)
          · rw [if_neg hlt, if_neg (fun z => z.2.elim (fun q => by omega) hlt)]
            exact ih (i + 1) _ hq (by omega) (Or.inr ⟨_, hk, rfl⟩)
    · rw [if_neg (by omega), List.drop_eq_nil_of_le (by omega)]
      rfl
theorem hk_gather_L {F : List Nat} {o p : Int} {cn nu : Nat → Int} {z2 : (Nat → Int) × (Nat → Int) × (Nat → Int) × Int} (hF : ps_S F z2.2.2.2 z2.1 z2.2.1) (hc : ∀ k, k < 100 → tl_R (cn k)) (hcn : ∀ x ∈ F, cn x = nu x) (inj : ∀ x ∈ F, ∀ y ∈ F, nu x = nu y → x = y) :
    ∀ (n i : Nat) (A : List Nat) (al : Int) (ai as : Nat → Int), i = A.length → i ≤ F.length → F.length + 1 ≤ i + n → ps_S A al ai as → hk_so nu A → (∀ x ∈ A, x ∈ F) → (∀ x ∈ F, x ∉ A → ∀ a ∈ A, nu a < nu x) →
      ∃ (A' : List Nat) (al' : Int) (ai' as' : Nat → Int), fX7_gather_L1 o p cn z2 n (i : Int) al ai as = some (al', ai', as') ∧ ps_S A' al' ai' as' ∧ hk_so nu A' ∧ ∀ x, x ∈ A' ↔ x ∈ F := by
  have h100 := hF.le
  have he := hF.1
  intro n
  induction n with
  | zero => intro i A al ai as h0 h1 h2; omega
  | succ n ih =>
    intro i A al ai as h0 hi hn2 hA hso hsub hlt
    rw [fX7_gather_L1]
    unfold fX4_length
    rw [pr_b, tl_gt ⟨⟨by omega, by omega⟩, ⟨by omega, by omega⟩⟩]
    by_cases hq : i < F.length
    · have e1 := hk_miss_L (o := o) (p := p) hA hF hc tl_N 0 (-1) (Nat.zero_le _) (by unfold tl_N; omega) (Or.inl rfl)
      rw [show ((0 : Nat) : Int) = (0 : Int) from rfl, List.drop_zero] at e1
      have e2 := (pl_fold_is (P := fun x => x ∉ A) (num := cn) F).congr (nu := nu) (Q := fun x => x ∉ A) hcn (fun _ _ => Iff.rfl)
      rcases e2 with ⟨_, e3⟩ | ⟨k, e3, e4, e5, e6⟩
      · have := hk_len F A hF.2.1 (fun x hx => by
          by_cases z : x ∈ A
          · exact z
          · exact absurd z (e3 x hx))
        omega
      · obtain ⟨ai2, as2, al2, f1, f2⟩ := ps_add hA (hF.2.2.1 k e4)
        rw [if_neg e5] at f2
        rw [if_pos (by omega)]
        unfold fX7_leastMissing
        rw [e1, pr_b, e3, pr_b, f1, pr_b, show (i : Int) + 1 = ((i + 1 : Nat) : Int) by omega]
        refine ih (i + 1) (A ++ [k]) al2 ai2 as2 (by rw [List.length_append, List.length_singleton]; omega) hq (by omega) f2 (hk_so_app hso (fun a ha => hlt k e4 e5 a ha)) (fun x hx => ?_) (fun x hx hxA a ha => ?_)
        · rcases List.mem_append.mp hx with z | z
          · exact hsub x z
          · rw [List.mem_singleton.mp z]
            exact e4
        · have hxA2 : x ∉ A := fun z => hxA (List.mem_append_left _ z)
          rcases List.mem_append.mp ha with z | z
          · exact hlt x hx hxA2 a z
          · rw [List.mem_singleton.mp z]
            have h1 := e6 x hx hxA2
            have h2 : nu k ≠ nu x := fun q => hxA (List.mem_append_right _ (List.mem_singleton.mpr (inj k e4 x hx q).symm))
            omega
    · rw [if_neg (by omega)]
      refine ⟨A, al, ai, as, rfl, hA, hso, fun x => ⟨hsub x, fun hx => ?_⟩⟩
      by_cases z : x ∈ A
      · exact z
      · have := hk_len (x :: A) F (List.nodup_cons.mpr ⟨z, hA.2.1⟩) (fun y hy => (List.mem_cons.mp hy).elim (fun q => q ▸ hx) (hsub y))
        rw [List.length_cons] at this
        omega
theorem qk_L2 {U : Nat → Bool} {F : List Nat} {number used nu : Nat → Int} {x : Nat} {z6 : Int × (Nat → Int) × (Nat → Int)} {last : Int} (hnu : ∀ k, k < 100 → tl_R (number k) ∧ (U k = true → number k = nu k)) (hu : ∀ k, k < 100 → used k = if U k = true then 1 else 0) (hF : ∀ k ∈ F, k < 100 ∧ U k = true) (hund : ∀ k, k < 100 → va_up z6.2.2 x 1 k = if k ∈ F then 1 else 0) (hl : tl_R last) :
    ∀ (n m i : Nat) (b : Int), i + m = 100 → m + 1 ≤ n → (b = -1 ∨ ∃ k : Nat, k < 100 ∧ U k = true ∧ b = (k : Int)) → fX10_copy_L2 number used (x : Int) z6 last n (i : Int) b = some (pl_fold (fun k => k ∈ F ∧ last < nu k) nu b (List.range' i m)) := by
  intro n
  induction n with
  | zero => intro m i b h1 h2; omega
  | succ n ih =>
    intro m i b him hn hb
    rw [fX10_copy_L2, tl_gt ⟨⟨by omega, by omega⟩, by decide⟩]
    cases m with
    | zero =>
      rw [if_neg (by omega)]
      rfl
    | succ m =>
      have q : i < 100 := by omega
      have iI : tl_in (i : Int) 100 := ⟨by omega, by omega⟩
      rw [if_pos (by omega), tl_gt iI, Int.toNat_natCast, Int.toNat_natCast, tl_gt (hq_uR hu i q), show (i : Int) + 1 = ((i + 1 : Nat) : Int) by omega, List.range'_succ, pl_fold]
      unfold pl_step
      have hno : ¬ (i ∈ F ∧ last < nu i) → fX10_copy_L2 number used (x : Int) z6 last n ((i + 1 : Nat) : Int) b = some (pl_fold (fun k => k ∈ F ∧ last < nu k) nu (if (i ∈ F ∧ last < nu i) ∧ (b < 0 ∨ nu i < nu b.toNat) then (i : Int) else b) (List.range' (i + 1) m)) := by
        intro z
        rw [if_neg (fun v => z v.1)]
        exact ih m (i + 1) b (by omega) (by omega) hb
      by_cases hU : U i = true
      · rw [hu i q, if_pos hU, if_neg (by decide), tl_gt iI, hund i q]
        by_cases hm : i ∈ F
        · rw [if_pos hm, tl_gt (by decide), if_neg (by decide), tl_gt iI, (hnu i q).2 hU]
          have hR := (hnu i q).1
          rw [(hnu i q).2 hU] at hR
          rw [tl_gt ⟨hR, hl⟩]
          by_cases hlt : last < nu i
          · rw [if_pos hlt]
            rcases hb with rfl | ⟨k, hk, hUk, rfl⟩
            · rw [tl_gt (by decide), if_pos (by decide), if_pos ⟨⟨hm, hlt⟩, Or.inl (by decide)⟩]
              exact ih m (i + 1) _ (by omega) (by omega) (Or.inr ⟨i, q, hU, rfl⟩)
            · have hRk := (hnu k hk).1
              rw [(hnu k hk).2 hUk] at hRk
              rw [tl_gt ⟨by omega, by omega⟩, if_neg (by omega), tl_gt iI, tl_gt ⟨by omega, by omega⟩, Int.toNat_natCast, (hnu k hk).2 hUk, tl_gt ⟨hR, hRk⟩]
              by_cases hc : nu i < nu k
              · rw [if_pos hc, if_pos ⟨⟨hm, hlt⟩, Or.inr hc⟩]
                exact ih m (i + 1) _ (by omega) (by omega) (Or.inr ⟨i, q, hU, rfl⟩)
              · rw [if_neg hc, if_neg (fun z => z.2.elim (fun v => by omega) hc)]
                exact ih m (i + 1) _ (by omega) (by omega) (Or.inr ⟨k, hk, hUk, rfl⟩)
          · rw [if_neg hlt]
            exact hno (fun z => hlt z.2)
        · rw [if_neg hm, tl_gt (by decide), if_pos rfl]
          exact hno (fun z => hm z.1)
      · rw [hu i q, if_neg hU, if_pos rfl]
        exact hno (fun z => hU (hF i z.1).2)
theorem qk_L1 {U : Nat → Bool} {F : List Nat} {number used nu : Nat → Int} {x : Nat} {z6 : Int × (Nat → Int) × (Nat → Int)} (hnu : ∀ k, k < 100 → tl_R (number k) ∧ (U k = true → number k = nu k)) (hu : ∀ k, k < 100 → used k = if U k = true then 1 else 0) (hF : ∀ k ∈ F, k < 100 ∧ U k = true) (hFn : F.Nodup) (h0 : ∀ k ∈ F, 0 ≤ nu k) (inj : ∀ a ∈ F, ∀ b ∈ F, nu a = nu b → a = b) (hund : ∀ k, k < 100 → va_up z6.2.2 x 1 k = if k ∈ F then 1 else 0) :
    ∀ (n : Nat) (A : List Nat) (last cnt : Int) (olds : Nat → Int), F.length + 3 ≤ A.length + n → cnt = (A.length : Int) → -1 ≤ last → tl_R last → hk_so nu A → (∀ a ∈ A, a ∈ F ∧ nu a ≤ last) → (∀ k ∈ F, k ∉ A → last < nu k) → (∀ (i : Nat) (h : i < A.length), olds i = ((A[i] : Nat) : Int)) →
      ∃ (A' : List Nat) (olds' : Nat → Int), fX10_copy_L1 number used (x : Int) z6 n last cnt olds = some ((A'.length : Int), olds') ∧ hk_so nu A' ∧ (∀ k, k ∈ A' ↔ k ∈ F) ∧ ∀ (i : Nat) (h : i < A'.length), olds' i = ((A'[i] : Nat) : Int) := by
  have hF100 := ps_len 100 F hFn (fun k hk => (hF k hk).1)
  intro n
  induction n with
  | zero =>
    intro A last cnt olds h1 h2 h3 h4 h5 h6 h7 h8
    have hAn : A.Nodup := h5.imp (fun {a b} z e => by rw [e] at z; omega)
    have := hk_len A F hAn (fun a ha => (h6 a ha).1)
    omega
  | succ n ih =>
    intro A last cnt olds h1 h2 h3 h4 h5 h6 h7 h8
    have hAn : A.Nodup := h5.imp (fun {a b} z e => by rw [e] at z; omega)
    have hAl := hk_len A F hAn (fun a ha => (h6 a ha).1)
    have e1 := qk_L2 (z6 := z6) (x := x) hnu hu hF hund h4 tl_N 100 0 (-1) (by omega) (by unfold tl_N; omega) (Or.inl rfl)
    rw [show ((0 : Nat) : Int) = (0 : Int) from rfl] at e1
    rw [fX10_copy_L1, tl_gt ⟨h4, by decide⟩, if_neg (by omega), e1, pr_b]
    have e2 := pl_fold_is (P := fun k => k ∈ F ∧ last < nu k) (num := nu) (List.range' 0 100)
    rcases e2 with ⟨e3, e4⟩ | ⟨k, e3, e4, e5, e6⟩
    · obtain ⟨n, rfl⟩ : ∃ m, n = m + 1 := ⟨n - 1, by omega⟩
      rw [e3, tl_gt (by decide), if_pos (by decide), fX10_copy_L1, tl_gt (by decide), if_pos rfl]
      refine ⟨A, olds, by rw [h2], h5, fun k => ⟨fun hk => (h6 k hk).1, fun hk => ?_⟩, h8⟩
      by_cases z : k ∈ A
      · exact z
      · exact absurd ⟨hk, h7 k hk z⟩ (e4 k (List.mem_range'_1.mpr ⟨Nat.zero_le _, by have := (hF k hk).1; omega⟩))
    · have hk := hF k e5.1
      have hkA : k ∉ A := fun z => by
        have := (h6 k z).2
        have := e5.2
        omega
      have hlen := hk_len (k :: A) F (List.nodup_cons.mpr ⟨hkA, hAn⟩) (fun y hy => (List.mem_cons.mp hy).elim (fun q => q ▸ e5.1) (fun z => (h6 y z).1))
      rw [List.length_cons] at hlen
      have hR := (hnu k hk.1).1
      rw [e3, tl_gt ⟨by omega, by omega⟩, if_neg (by omega), tl_gt ⟨by omega, by omega⟩, tl_gt ⟨by omega, by omega⟩, Int.toNat_natCast, h2, Int.toNat_natCast, (hnu k hk.1).2 hk.2]
      rw [(hnu k hk.1).2 hk.2] at hR
      have h0k := h0 k e5.1
      refine ih (A ++ [k]) (nu k) _ _ (by rw [List.length_append, List.length_singleton]; omega) (by rw [List.length_append, List.length_singleton]; omega) (by omega) hR (hk_so_app h5 (fun a ha => by
        have := (h6 a ha).2
        have := e5.2
        omega)) (fun a ha => ?_) (fun j hj hjA => ?_) (fun i hi => ?_)
      · rcases List.mem_append.mp ha with z | z
        · have := (h6 a z).2
          have := e5.2
          exact ⟨(h6 a z).1, by omega⟩
        · rw [List.mem_singleton.mp z]
          exact ⟨e5.1, Int.le_refl _⟩
      · have hjA2 : j ∉ A := fun z => hjA (List.mem_append_left _ z)
        have h1 := e6 j (List.mem_range'_1.mpr ⟨Nat.zero_le _, by have := (hF j hj).1; omega⟩) ⟨hj, h7 j hj hjA2⟩
        have h2 : nu k ≠ nu j := fun q => hjA (List.mem_append_right _ (List.mem_singleton.mpr (inj k e5.1 j hj q).symm))
        omega
      · rw [List.length_append, List.length_singleton] at hi
        by_cases z : i = A.length
        · subst z
          rw [va_up_self]
          simp
        · rw [va_up_ne _ _ z, h8 i (by omega), List.getElem_append_left]
