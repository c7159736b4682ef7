/-! copy: the house behind it keeps what holds of houses -/
theorem hk_fm_nd {f : Nat → Option Nat} : ∀ (xs : List Nat), xs.Nodup → (∀ a ∈ xs, ∀ b ∈ xs, ∀ v, f a = some v → f b = some v → a = b) → (xs.filterMap f).Nodup
  | [], _, _ => List.nodup_nil
  | a :: xs, hn, h => by
    have hn2 := List.nodup_cons.mp hn
    have ih := hk_fm_nd xs hn2.2 (fun c hc b hb => h c (List.mem_cons_of_mem _ hc) b (List.mem_cons_of_mem _ hb))
    cases e : f a with
    | none =>
      rw [List.filterMap_cons_none e]
      exact ih
    | some v =>
      rw [List.filterMap_cons_some e, List.nodup_cons]
      refine ⟨fun q => ?_, ih⟩
      obtain ⟨b, h1, h2⟩ := List.mem_filterMap.mp q
      have := h a List.mem_cons_self b (List.mem_cons_of_mem _ h1) v e h2
      exact hn2.1 (this ▸ h1)
theorem hs_pa_map {own own2 : Nat → List Nat} {f : Nat → Nat} (h : ∀ x, ∀ y ∈ own2 x, f y ∈ own (f x)) : ∀ (n x y : Nat), hs_pa own2 n x y → hs_pa own n (f x) (f y)
  | 0, x, y, e => by
    have e2 : x = y := e
    rw [e2]
    exact rfl
  | n + 1, x, y, ⟨z, h1, h2⟩ => ⟨f z, h x z h1, hs_pa_map h n z y h2⟩
theorem hk_mem_mp {A : List Nat} {tw : Nat → Nat} {xs : List Nat} {v : Nat} : v ∈ hk_mp A tw xs ↔ ∃ o, o ∈ xs ∧ o ∈ A ∧ tw o = v := by
  unfold hk_mp
  rw [List.mem_map]
  constructor
  · rintro ⟨o, h1, h2⟩
    have h3 := List.mem_filter.mp h1
    exact ⟨o, h3.1, by simpa using h3.2, h2⟩
  · rintro ⟨o, h1, h2, h3⟩
    exact ⟨o, List.mem_filter.mpr ⟨h1, by simpa using h2⟩, h3⟩
theorem hk_mem_sg {fo ru : Nat → Int} {A : List Nat} {tw : Nat → Nat} {l y v : Nat} : hk_sg fo ru A tw l y = some v ↔ (y ∈ A ∧ tw y = v) ∨ (y ∉ A ∧ hk_keep fo ru l ∧ y = v) := by
  unfold hk_sg
  by_cases a : y ∈ A
  · rw [if_pos a]
    constructor
    · intro h
      exact Or.inl ⟨a, Option.some.inj h⟩
    · rintro (⟨_, h⟩ | ⟨h, _⟩)
      · rw [h]
      · exact absurd a h
  · rw [if_neg a]
    by_cases b : hk_keep fo ru l
    · rw [if_pos b]
      constructor
      · intro h
        exact Or.inr ⟨a, b, Option.some.inj h⟩
      · rintro (⟨h, _⟩ | ⟨_, _, h⟩)
        · exact absurd h a
        · rw [h]
    · rw [if_neg b]
      constructor
      · intro h
        cases h
      · rintro (⟨h, _⟩ | ⟨_, h, _⟩)
        · exact absurd h a
        · exact absurd h b
theorem hs_I.copy {nl : Nat} {fo ru : Nat → Int} {g : Int} {U : Nat → Bool} {nu : Nat → Int} {w d : Nat → Nat → List Nat} (h : hs_I nl fo ru g U nu w d) {A : List Nat} {tw : Nat → Nat} (hK : hk_K A tw) (hA : ∀ o ∈ A, o < 100 ∧ U o = true ∧ U (tw o) = true) (h0 : ∀ l, ∀ o ∈ A, w l (tw o) = [] ∧ d l (tw o) = []) (hcr : ¬ hk_cr nl fo ru A d) : hs_I nl fo ru g U nu (hk_Wf fo ru A tw w) (hk_Df fo ru A tw d) := by
  have nw : ∀ l s, ∀ o ∈ A, tw o ∉ w l s := fun l s o ho q => by
    have := (h.tw l s (tw o)).mp q
    rw [(h0 l o ho).2] at this
    cases this
  have ndd : ∀ l s, ∀ o ∈ A, tw o ∉ d l s := fun l s o ho q => by
    have := (h.tw l (tw o) s).mpr q
    rw [(h0 l o ho).1] at this
    cases this
  refine ⟨h.num, h.inj, fun l s x hx => ?_, fun l s x => ?_, fun l s => ⟨?_, ?_⟩, fun l s => ⟨?_, ?_⟩, fun l h1 h2 s => ?_, fun n x q => ?_⟩
  · unfold hk_Wf at hx
    cases e : hk_tb A tw s with
    | none =>
      rw [e] at hx
      exact h.row l s x hx
    | some o =>
      rw [e] at hx
      obtain ⟨e1, e2⟩ := hk_tb_some e
      obtain ⟨y, y1, y2⟩ := List.mem_filterMap.mp hx
      have hr := h.row l o y y1
      rcases hk_mem_sg.mp y2 with ⟨z1, z2⟩ | ⟨_, _, z2⟩
      · rw [← e2, ← z2]
        exact ⟨hr.1, (hK.2.1 o e1).1, (hK.2.1 y z1).1, (hA o e1).2.2, (hA y z1).2.2⟩
      · rw [← e2, ← z2]
        exact ⟨hr.1, (hK.2.1 o e1).1, hr.2.2.1, (hA o e1).2.2, hr.2.2.2.2⟩
  · unfold hk_Wf hk_Df
    cases e : hk_tb A tw s with
    | none =>
      have hs : ∀ o ∈ A, tw o ≠ s := fun o ho z => by
        rw [← z, hk_tb_tw hK ho] at e
        cases e
      cases f : hk_tb A tw x with
      | none =>
        dsimp only
        by_cases k : hk_keep fo ru l ∧ x ∉ A
        · rw [if_pos k, List.mem_append, h.tw l s x]
          constructor
          · exact Or.inl
          · rintro (z | z)
            · exact z
            · obtain ⟨o, _, z2, z3⟩ := hk_mem_mp.mp z
              exact absurd z3 (hs o z2)
        · rw [if_neg k]
          exact h.tw l s x
      | some y =>
        obtain ⟨f1, f2⟩ := hk_tb_some f
        dsimp only
        constructor
        · intro z
          rw [← f2] at z
          exact absurd z (nw l s y f1)
        · intro z
          obtain ⟨o, _, z2, z3⟩ := hk_mem_mp.mp z
          exact absurd z3 (hs o z2)
    | some o =>
      obtain ⟨e1, e2⟩ := hk_tb_some e
      dsimp only
      rw [List.mem_filterMap]
      cases f : hk_tb A tw x with
      | none =>
        have hx : ∀ y ∈ A, tw y ≠ x := fun y hy z => by
          rw [← z, hk_tb_tw hK hy] at f
          cases f
        dsimp only
        by_cases k : hk_keep fo ru l ∧ x ∉ A
        · rw [if_pos k, List.mem_append]
          constructor
          · rintro ⟨y, y1, y2⟩
            rcases hk_mem_sg.mp y2 with ⟨z1, z2⟩ | ⟨_, _, z2⟩
            · exact absurd z2 (hx y z1)
            · rw [z2] at y1
              exact Or.inr (hk_mem_mp.mpr ⟨o, (h.tw l o x).mp y1, e1, e2⟩)
          · rintro (z | z)
            · rw [← e2] at z
              exact absurd z (ndd l x o e1)
            · obtain ⟨o2, z1, z2, z3⟩ := hk_mem_mp.mp z
              have := hK.2.2 o2 z2 o e1 (by rw [z3, e2])
              rw [this] at z1
              exact ⟨x, (h.tw l o x).mpr z1, hk_mem_sg.mpr (Or.inr ⟨k.2, k.1, rfl⟩)⟩
        · rw [if_neg k]
          constructor
          · rintro ⟨y, y1, y2⟩
            rcases hk_mem_sg.mp y2 with ⟨z1, z2⟩ | ⟨z0, z1, z2⟩
            · exact absurd z2 (hx y z1)
            · exact absurd ⟨z1, z2 ▸ z0⟩ k
          · intro z
            rw [← e2] at z
            exact absurd z (ndd l x o e1)
      | some y =>
        obtain ⟨f1, f2⟩ := hk_tb_some f
        dsimp only
        constructor
        · rintro ⟨y2, y3, y4⟩
          rcases hk_mem_sg.mp y4 with ⟨z1, z2⟩ | ⟨_, _, z2⟩
          · have := hK.2.2 y2 z1 y f1 (by rw [z2, f2])
            rw [this] at y3
            exact hk_mem_mp.mpr ⟨o, (h.tw l o y).mp y3, e1, e2⟩
          · rw [z2, ← f2] at y3
            exact absurd y3 (nw l o y f1)
        · intro z
          obtain ⟨o2, z1, z2, z3⟩ := hk_mem_mp.mp z
          have := hK.2.2 o2 z2 o e1 (by rw [z3, e2])
          rw [this] at z1
          exact ⟨y, (h.tw l o y).mpr z1, hk_mem_sg.mpr (Or.inl ⟨f1, f2⟩)⟩
  · unfold hk_Wf
    cases e : hk_tb A tw s with
    | none => exact (h.nd l s).1
    | some o =>
      refine hk_fm_nd _ (h.nd l o).1 (fun a ha b hb v h1 h2 => ?_)
      rcases hk_mem_sg.mp h1 with ⟨z1, z2⟩ | ⟨z0, z1, z2⟩
      · rcases hk_mem_sg.mp h2 with ⟨y1, y2⟩ | ⟨_, _, y2⟩
        · exact hK.2.2 a z1 b y1 (by rw [z2, y2])
        · rw [y2, ← z2] at hb
          exact absurd hb (nw l o a z1)
      · rcases hk_mem_sg.mp h2 with ⟨y1, y2⟩ | ⟨_, _, y2⟩
        · rw [z2, ← y2] at ha
          exact absurd ha (nw l o b y1)
        · rw [z2, y2]
  · have hmp : ∀ s2, (hk_mp A tw (d l s2)).Nodup := fun s2 => by
      unfold hk_mp
      refine List.nodup_iff_pairwise_ne.mpr ?_
      rw [List.pairwise_map]
      refine List.Pairwise.imp_of_mem ?_ (((h.nd l s2).2.sublist List.filter_sublist))
      intro a b ha hb hab e
      have h1 := (List.mem_filter.mp ha).2
      have h2 := (List.mem_filter.mp hb).2
      exact hab (hK.2.2 a (by simpa using h1) b (by simpa using h2) e)
    unfold hk_Df
    cases e : hk_tb A tw s with
    | none =>
      dsimp only
      by_cases k : hk_keep fo ru l ∧ s ∉ A
      · rw [if_pos k, List.nodup_append]
        refine ⟨(h.nd l s).2, hmp s, fun a ha b hb q => ?_⟩
        obtain ⟨o, _, z2, z3⟩ := hk_mem_mp.mp hb
        rw [q, ← z3] at ha
        exact ndd l s o z2 ha
      · rw [if_neg k]
        exact (h.nd l s).2
    | some o => exact hmp o
  · unfold hk_Wf
    cases e : hk_tb A tw s with
    | none => exact (h.len l s).1
    | some o => exact Nat.le_trans (hk_fm_len _) (h.len l o).1
  · unfold hk_Df
    cases e : hk_tb A tw s with
    | none =>
      dsimp only
      by_cases k : hk_keep fo ru l ∧ s ∉ A
      · rw [if_pos k, List.length_append, hk_mp_len]
        by_cases z : l < nl ∧ s < 100
        · have : ¬ 12 < (d l s).length + hk_cnt A d l s := fun q => hcr ⟨l, z.1, s, z.2, k.1, k.2, q⟩
          omega
        · have hd0 : d l s = [] := List.eq_nil_iff_forall_not_mem.mpr (fun v hv => by
            have := h.row l v s ((h.tw l v s).mpr hv)
            exact z ⟨this.1, this.2.2.1⟩)
          have := hk_cnt_le A d l s
          rw [hd0] at this ⊢
          simp at this ⊢
          omega
      · rw [if_neg k]
        exact (h.len l s).2
    | some o =>
      dsimp only
      rw [hk_mp_len]
      exact Nat.le_trans (hk_cnt_le A d l o) (h.len l o).2
  · unfold hk_Wf
    cases e : hk_tb A tw s with
    | none => exact h.one l h1 h2 s
    | some o => exact Nat.le_trans (hk_fm_len _) (h.one l h1 h2 o)
  · refine h.ac n _ (hs_pa_map (f := fun s => (hk_tb A tw s).getD s) (fun a b hb => ?_) _ _ _ q)
    obtain ⟨k, k1, k2, k3⟩ := pw_mem_own.mp hb
    refine pw_mem_own.mpr ⟨k, k1, k2, ?_⟩
    unfold hk_Wf at k3
    cases e : hk_tb A tw a with
    | none =>
      rw [e] at k3
      cases f : hk_tb A tw b with
      | none => exact k3
      | some y =>
        obtain ⟨f1, f2⟩ := hk_tb_some f
        have k3' : b ∈ w k a := k3
        rw [← f2] at k3'
        exact absurd k3' (nw k a y f1)
    | some o =>
      rw [e] at k3
      obtain ⟨y, y1, y2⟩ := List.mem_filterMap.mp k3
      rcases hk_mem_sg.mp y2 with ⟨z1, z2⟩ | ⟨_, z1, _⟩
      · rw [← z2, hk_tb_tw hK z1]
        exact y1
      · exact absurd k2 z1.2
theorem hk_Wl_nl {nl : Nat} {fo ru : Nat → Int} {g : Int} {U : Nat → Bool} {nu : Nat → Int} {w d : Nat → Nat → List Nat} (h : hs_I nl fo ru g U nu w d) {A : List Nat} {tw : Nat → Nat} : hk_Wl fo ru A tw w nl = hk_Wf fo ru A tw w ∧ hk_Dl fo ru A tw d nl = hk_Df fo ru A tw d := by
  have hw : ∀ l s, ¬ l < nl → w l s = [] := fun l s hl => List.eq_nil_iff_forall_not_mem.mpr (fun v hv => hl (h.row l s v hv).1)
  have hd : ∀ l s, ¬ l < nl → d l s = [] := fun l s hl => List.eq_nil_iff_forall_not_mem.mpr (fun v hv => hl (h.row l v s ((h.tw l v s).mpr hv)).1)
  constructor
  · funext l s
    unfold hk_Wl
    by_cases q : l < nl
    · rw [if_pos q]
    · rw [if_neg q]
      unfold hk_Wf
      rw [hw l s q]
      cases e : hk_tb A tw s with
      | none => rfl
      | some o =>
        dsimp only
        rw [hw l o q]
        rfl
  · funext l s
    unfold hk_Dl
    by_cases q : l < nl
    · rw [if_pos q]
    · rw [if_neg q]
      unfold hk_Df
      rw [hd l s q]
      cases e : hk_tb A tw s with
      | none =>
        dsimp only
        by_cases k : hk_keep fo ru l ∧ s ∉ A
        · rw [if_pos k]
          rfl
        · rw [if_neg k]
      | some o =>
        dsimp only
        rw [hd l o q]
        rfl
