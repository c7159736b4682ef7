/-! copy: a twin for each -/
theorem hk_adm {nl : Nat} {fo ru : Nat → Int} {w d : Nat → Nat → List Nat} {A : List Nat} {al : Int} {ai as : Nat → Int} (hA : ps_S A al ai as) {pa : Int} {dl : Nat → Int} {dw : Nat → Int64} {hl : Nat → Int} {hw : Nat → Int64} {had has olds : Nat → Int} (eo : ∀ (i : Nat) (h : i < A.length), olds i = ((A[i] : Nat) : Int)) {lk pm km lv ra g0 : Int} {z18 : Int × Int} :
    ∀ (m n1 n2 i : Nat) (U : Nat → Bool) (nu ki : Nat → Int) (g ob ob2 : Int) (kk nn hadMany hasMany kind number used tw1 tw2 : Nat → Int), i + m = A.length → m + 1 ≤ n1 → m + 1 ≤ n2 → g = g0 + (i : Int) → 0 ≤ g → g + (m : Int) ≤ 1000000 → hs_n U + m ≤ 100 → (∀ o ∈ A.drop i, U o = true) → hs_I nl fo ru g U nu w d → hc_R U nu ki w d ob pa dl dw hl hw kk nn → hq_R U nu ki w d ob2 had hadMany has hasMany kind number used →
      ∃ (U' : Nat → Bool) (nu' ki' : Nat → Int) (tw : Nat → Nat) (ob' ob2' : Int) (kk' nn' hadMany' hasMany' kind' number' used' tw1' tw2' : Nat → Int),
        fX7_build_L1 al as pa g0 n1 (i : Int) tw1 ob kk nn = some (tw1', ob', kk', nn') ∧ fX10_copy_L4 lk pm km lv ra (A.length : Int) olds z18 n2 (i : Int) ob2 g hadMany hasMany kind number tw2 used = some (ob2', g + (m : Int), hadMany', hasMany', kind', number', tw2', used') ∧
        hs_I nl fo ru (g + (m : Int)) U' nu' w d ∧ hc_R U' nu' ki' w d ob' pa dl dw hl hw kk' nn' ∧ hq_R U' nu' ki' w d ob2' had hadMany' has hasMany' kind' number' used' ∧
        (∀ o ∈ A.drop i, tw1' o = ((tw o : Nat) : Int) ∧ tw2' o = ((tw o : Nat) : Int) ∧ tw o < 100 ∧ U (tw o) = false ∧ U' (tw o) = true ∧ ki' (tw o) = ki o ∧ ∀ o2 ∈ A.drop i, tw o = tw o2 → o = o2) ∧ (∀ k, k ∉ A.drop i → tw1' k = tw1 k ∧ tw2' k = tw2 k) ∧ (∀ k, U k = true → U' k = true ∧ nu' k = nu k ∧ ki' k = ki k) ∧ ∀ k, U' k = true → U k = true ∨ ∃ o ∈ A.drop i, k = tw o := by
  have h100 := hA.le
  have he := hA.1
  intro m
  induction m with
  | zero =>
    intro n1 n2 i U nu ki g ob ob2 kk nn hadMany hasMany kind number used tw1 tw2 him h1 h2 hg hg0 hgm hn hU hI hR hQ
    obtain ⟨n1, rfl⟩ : ∃ k, n1 = k + 1 := ⟨n1 - 1, by omega⟩
    obtain ⟨n2, rfl⟩ : ∃ k, n2 = k + 1 := ⟨n2 - 1, by omega⟩
    have hdr : A.drop i = [] := List.drop_eq_nil_of_le (by omega)
    have eg : g + ((0 : Nat) : Int) = g := by omega
    refine ⟨U, nu, ki, fun _ => 0, ob, ob2, kk, nn, hadMany, hasMany, kind, number, used, tw1, tw2, ?_, ?_, by rw [eg]; exact hI, hR, hQ, ?_, fun _ _ => ⟨rfl, rfl⟩, fun k hk => ⟨hk, rfl, rfl⟩, fun k hk => Or.inl hk⟩
    · rw [fX7_build_L1]
      unfold fX4_length
      rw [pr_b, tl_gt ⟨⟨by omega, by omega⟩, ⟨by omega, by omega⟩⟩, if_neg (by omega)]
    · rw [fX10_copy_L4, tl_gt ⟨⟨by omega, by omega⟩, ⟨by omega, by omega⟩⟩, if_neg (by omega), eg]
    · rw [hdr]
      intro o ho
      cases ho
  | succ m ih =>
    intro n1 n2 i U nu ki g ob ob2 kk nn hadMany hasMany kind number used tw1 tw2 him h1 h2 hg hg0 hgm hn hU hI hR hQ
    obtain ⟨n1, rfl⟩ : ∃ k, n1 = k + 1 := ⟨n1 - 1, by omega⟩
    obtain ⟨n2, rfl⟩ : ∃ k, n2 = k + 1 := ⟨n2 - 1, by omega⟩
    have q : i < A.length := by omega
    have ha100 := hA.2.2.1 _ (List.getElem_mem q)
    have hdr := List.drop_eq_getElem_cons q
    have hUa : U A[i] = true := hU _ (by rw [hdr]; exact List.mem_cons_self)
    have hnd : (A.drop i).Nodup := hA.2.1.sublist (List.drop_sublist _ _)
    rw [hdr] at hnd
    have hnd2 := List.nodup_cons.mp hnd
    have hki := (hR.2.2.2.2.1 _ ha100)
    have hkiR := hki.1
    rw [hki.2 hUa] at hkiR
    have hki2 := (hQ.2.2.2.1 _ ha100).2 hUa
    obtain ⟨p, hp, hUp, hmin, a1, a2⟩ := hc_adm hI (by omega) (by omega) hR hkiR
    obtain ⟨hm2, ha2, b1, b2⟩ := hq_fresh (t := z18.2) (lk := lk) (pm := pm) (km := km) (lv := lv) (ra := ra) hI hg0 (by omega) hQ hkiR hp hUp hmin
    have hI2 := hI.adm (p := p) hg0
    obtain ⟨U', nu', ki', tw, ob', ob2', kk', nn', hadMany', hasMany', kind', number', used', tw1', tw2', c1, c2, c3, c4, c5, c6, c7, c8, c9⟩ := ih n1 n2 (i + 1) (va_up U p true) (va_up nu p g) (va_up ki p (ki A[i])) (g + 1) (ob + 1) (ob2 + 1) (va_up kk p (ki A[i])) (va_up nn p g) hm2 ha2 (va_up kind p (ki A[i])) (va_up number p g) (va_up used p 1) (va_up tw1 A[i] (p : Int)) (va_up tw2 A[i] (p : Int)) (by omega) (by omega) (by omega) (by omega) (by omega) (by omega) (by rw [hs_n_up hp hUp]; omega) (fun o ho => by
      unfold va_up
      by_cases z : o = p
      · rw [if_pos z]
      · rw [if_neg z]
        exact hU o (by rw [hdr]; exact List.mem_cons_of_mem _ ho)) hI2 a2 b2
    have hapne : A[i] ≠ p := fun z => by
      rw [z, hUp] at hUa
      cases hUa
    have eg : g + 1 + (m : Int) = g + ((m + 1 : Nat) : Int) := by omega
    rw [eg] at c2 c3
    have hpne : ∀ o ∈ A.drop (i + 1), tw o ≠ p := fun o ho z => by
      have := (c6 o ho).2.2.2.1
      rw [z, va_up_self] at this
      cases this
    refine ⟨U', nu', ki', fun o => if o = A[i] then p else tw o, ob', ob2', kk', nn', hadMany', hasMany', kind', number', used', tw1', tw2', ?_, ?_, c3, c4, c5, ?_, ?_, ?_, ?_⟩
    · rw [fX7_build_L1]
      unfold fX4_length
      rw [pr_b, tl_gt ⟨⟨by omega, by omega⟩, ⟨by omega, by omega⟩⟩, if_pos (by omega), ps_get hA q, pr_b, ps_isSlot1 ha100, pr_b, tl_gt (by decide), if_neg (by decide), ph_kindOf ha100, pr_b, hki.2 hUa, ← hg, a1, pr_b]
      dsimp only
      rw [tl_gt ⟨by omega, by omega⟩, Int.toNat_natCast, show (i : Int) + 1 = ((i + 1 : Nat) : Int) by omega]
      exact c1
    · rw [fX10_copy_L4, tl_gt ⟨⟨by omega, by omega⟩, ⟨by omega, by omega⟩⟩, if_pos (by omega), tl_gt ⟨by omega, by omega⟩, tl_gt ⟨by omega, by omega⟩, Int.toNat_natCast, eo i q, tl_gt ⟨by omega, by omega⟩, Int.toNat_natCast, hki2, b1, pr_b]
      dsimp only
      rw [tl_gt ⟨by omega, by omega⟩, show (i : Int) + 1 = ((i + 1 : Nat) : Int) by omega]
      exact c2
    · intro o ho
      rw [hdr] at ho
      dsimp only
      by_cases z : o = A[i]
      · have hc7 := c7 A[i] hnd2.1
        rw [va_up_self, va_up_self] at hc7
        rw [if_pos z, z]
        refine ⟨hc7.1, hc7.2, hp, hUp, (c8 p (va_up_self _ _ _)).1, ?_, fun o2 ho2 e => ?_⟩
        · rw [(c8 p (va_up_self _ _ _)).2.2, va_up_self]
        · rw [hdr] at ho2
          rcases List.mem_cons.mp ho2 with v | v
          · exact v.symm
          · have hv : o2 ≠ A[i] := fun y => hnd2.1 (y ▸ v)
            rw [if_neg hv] at e
            exact absurd e.symm (hpne o2 v)
      · have ho2 : o ∈ A.drop (i + 1) := (List.mem_cons.mp ho).elim (fun v => absurd v z) id
        obtain ⟨d1, d2, d3, d4, d5, d6, d7⟩ := c6 o ho2
        rw [if_neg z]
        have hop : o ≠ p := fun y => by
          have := hU o (by rw [hdr]; exact ho)
          rw [y, hUp] at this
          cases this
        rw [va_up_ne _ _ (hpne o ho2)] at d4
        rw [va_up_ne _ _ hop] at d6
        refine ⟨d1, d2, d3, d4, d5, d6, fun o3 ho3 e => ?_⟩
        rw [hdr] at ho3
        rcases List.mem_cons.mp ho3 with v | v
        · rw [if_pos v] at e
          exact absurd e (hpne o ho2)
        · have hv : o3 ≠ A[i] := fun y => hnd2.1 (y ▸ v)
          rw [if_neg hv] at e
          exact d7 o3 v e
    · intro k hk
      rw [hdr] at hk
      have hk1 : k ≠ A[i] := fun z => hk (z ▸ List.mem_cons_self)
      have hk2 := c7 k (fun z => hk (List.mem_cons_of_mem _ z))
      rw [va_up_ne _ _ hk1, va_up_ne _ _ hk1] at hk2
      exact hk2
    · intro k hk
      have hkp : k ≠ p := fun z => by
        rw [z, hUp] at hk
        cases hk
      have := c8 k (by rw [va_up_ne _ _ hkp]; exact hk)
      rw [va_up_ne _ _ hkp, va_up_ne _ _ hkp] at this
      exact this
    · intro k hk
      rw [hdr]
      rcases c9 k hk with z | ⟨o, z1, z2⟩
      · by_cases hkp : k = p
        · exact Or.inr ⟨A[i], List.mem_cons_self, by dsimp only; rw [if_pos rfl]; exact hkp⟩
        · rw [va_up_ne _ _ hkp] at z
          exact Or.inl z
      · refine Or.inr ⟨o, List.mem_cons_of_mem _ z1, ?_⟩
        have hv : o ≠ A[i] := fun y => hnd2.1 (y ▸ z1)
        dsimp only
        rw [if_neg hv]
        exact z2
