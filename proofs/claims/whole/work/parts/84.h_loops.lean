/-! copy: the loops over the rows, both sides -/
theorem ck_L3 {A : List Nat} {al ob : Int} {ai as tws : Nat → Int} (hA : ps_S A al ai as) {tw : Nat → Nat} (hK : hk_K A tw) (ht : ∀ o ∈ A, tws o = ((tw o : Nat) : Int)) {nl l : Nat} {fo ru : Nat → Int} (hn : nl ≤ 10) (hl : l < nl) (hf : 0 ≤ fo l ∧ fo l ≤ 2) (hr : 0 ≤ ru l ∧ ru l ≤ 2) {w : Nat → Nat → List Nat} :
    ∀ (n j : Nat) (pa : Int) (hl2 : Nat → Int) (hw2 : Nat → Int64), j ≤ A.length → A.length + 1 ≤ j + n → pr_R (hk_Wj fo ru A tw w l j) hl2 hw2 → pa = (hs_p (hk_Wj fo ru A tw w l j) : Int) →
      ∃ (pa' : Int) (hl' : Nat → Int) (hw' : Nat → Int64), fX7_build_L3 al ai as (nl : Int) fo ru tws ob (l : Int) n (j : Int) pa hl2 hw2 = some (pa', hl', hw') ∧ pr_R (hk_Wj fo ru A tw w l A.length) hl' hw' ∧ pa' = (hs_p (hk_Wj fo ru A tw w l A.length) : Int) := by
  have h100 := hA.le
  have he := hA.1
  intro n
  induction n with
  | zero => intro j pa hl2 hw2 a b; omega
  | succ n ih =>
    intro j pa hl2 hw2 hj hn2 hR hp
    rw [fX7_build_L3]
    unfold fX4_length
    rw [pr_b, tl_gt ⟨⟨by omega, by omega⟩, ⟨by omega, by omega⟩⟩]
    by_cases q : j < A.length
    · have ho := List.getElem_mem q
      have hto : tw A[j] ≠ A[j] := fun z => (hK.2.1 _ ho).2 (by rw [z]; exact ho)
      obtain ⟨pa', hl', hw', a1, a2, a3⟩ := ck_has (ob := ob) hA ht (fun o ho => (hK.2.1 o ho).1) hn hl hf hr ho hto (hk_Wj_new hK q) hR hp
      rw [hk_Wj_step hK q] at a2 a3
      rw [if_pos (by omega), ps_get hA q, pr_b, a1, pr_b, show (j : Int) + 1 = ((j + 1 : Nat) : Int) by omega]
      exact ih (j + 1) pa' hl' hw' q (by omega) a2 a3
    · rw [if_neg (by omega)]
      have : j = A.length := by omega
      rw [this] at hR hp
      exact ⟨pa, hl2, hw2, rfl, hR, hp⟩
theorem ck_L4 {A : List Nat} {al ob pa : Int} {ai as tws : Nat → Int} (hA : ps_S A al ai as) {tw : Nat → Nat} (hK : hk_K A tw) (ht : ∀ o ∈ A, tws o = ((tw o : Nat) : Int)) {nl l : Nat} {fo ru : Nat → Int} (hn : nl ≤ 10) (hl : l < nl) (hf : 0 ≤ fo l ∧ fo l ≤ 2) (hr : 0 ≤ ru l ∧ ru l ≤ 2) {d : Nat → Nat → List Nat} (h12 : ∀ l s, (d l s).length ≤ 12) (hcr : ¬ hk_cr nl fo ru A d) :
    ∀ (n i : Nat) (dl : Nat → Int) (dw : Nat → Int64), i ≤ 100 → 101 ≤ i + n → pr_R (hk_Di fo ru A tw d l i) dl dw →
      ∃ (dl' : Nat → Int) (dw' : Nat → Int64), fX7_build_L4 al ai (nl : Int) fo ru tws ob (l : Int) pa n (i : Int) dl dw = some (dl', dw') ∧ pr_R (hk_Di fo ru A tw d l 100) dl' dw' := by
  intro n
  induction n with
  | zero => intro i dl dw a b; omega
  | succ n ih =>
    intro i dl dw hi hn2 hR
    rw [fX7_build_L4, tl_gt ⟨⟨by omega, by omega⟩, by decide⟩]
    by_cases q : i < 100
    · obtain ⟨dl', dw', a1, a2⟩ := ck_had (ob := ob) (pa := pa) hA ht (fun o ho => (hK.2.1 o ho).1) hn hl hf hr q (hk_Di_12 hK h12 hl q hcr) hR
      rw [hk_Di_step hK] at a2
      rw [if_pos (by omega), a1, pr_b, show (i : Int) + 1 = ((i + 1 : Nat) : Int) by omega]
      exact ih (i + 1) dl' dw' q (by omega) a2
    · rw [if_neg (by omega)]
      have : i = 100 := by omega
      rw [this] at hR
      exact ⟨dl, dw, rfl, hR⟩
theorem ck_L2 {A : List Nat} {al ob : Int} {ai as tws : Nat → Int} (hA : ps_S A al ai as) {tw : Nat → Nat} (hK : hk_K A tw) (ht : ∀ o ∈ A, tws o = ((tw o : Nat) : Int)) {nl : Nat} {fo ru : Nat → Int} (hn : nl ≤ 10) (hfr : ∀ l, l < nl → (0 ≤ fo l ∧ fo l ≤ 2) ∧ (0 ≤ ru l ∧ ru l ≤ 2)) {w d : Nat → Nat → List Nat} (h0 : ∀ l, ∀ o ∈ A, w l (tw o) = [] ∧ d l (tw o) = []) (h12 : ∀ l s, (d l s).length ≤ 12) (h100 : ∀ l s, 100 ≤ s → d l s = []) (hcr : ¬ hk_cr nl fo ru A d) :
    ∀ (n l : Nat) (pa : Int) (dl : Nat → Int) (dw : Nat → Int64) (hl2 : Nat → Int) (hw2 : Nat → Int64), l ≤ nl → nl + 1 ≤ l + n → pr_R (hk_Dl fo ru A tw d l) dl dw → pr_R (hk_Wl fo ru A tw w l) hl2 hw2 → pa = (hs_p (hk_Wl fo ru A tw w l) : Int) →
      ∃ (pa' : Int) (dl' : Nat → Int) (dw' : Nat → Int64) (hl' : Nat → Int) (hw' : Nat → Int64), fX7_build_L2 al ai as (nl : Int) fo ru tws ob n (l : Int) pa dl dw hl2 hw2 = some (pa', dl', dw', hl', hw') ∧ pr_R (hk_Dl fo ru A tw d nl) dl' dw' ∧ pr_R (hk_Wl fo ru A tw w nl) hl' hw' ∧ pa' = (hs_p (hk_Wl fo ru A tw w nl) : Int) := by
  have hAl := hA.le
  intro n
  induction n with
  | zero => intro l pa dl dw hl2 hw2 a b; omega
  | succ n ih =>
    intro l pa dl dw hl2 hw2 hl hn2 hD hW hp
    rw [fX7_build_L2]
    unfold fX5_howMany
    rw [pr_b, tl_gt ⟨⟨by omega, by omega⟩, ⟨by omega, by omega⟩⟩]
    by_cases q : l < nl
    · rw [← hk_Wj_0 (fun l o ho => (h0 l o ho).1)] at hW hp
      rw [← hk_Di_0 (fun l o ho => (h0 l o ho).2)] at hD
      obtain ⟨pa1, hl1, hw1, a1, a2, a3⟩ := ck_L3 (ob := ob) hA hK ht hn q (hfr l q).1 (hfr l q).2 (w := w) tl_N 0 pa hl2 hw2 (Nat.zero_le _) (by unfold tl_N; omega) hW hp
      obtain ⟨dl1, dw1, b1, b2⟩ := ck_L4 (ob := ob) (pa := pa1) hA hK ht hn q (hfr l q).1 (hfr l q).2 h12 hcr tl_N 0 dl dw (Nat.zero_le _) (by unfold tl_N; omega) hD
      rw [show ((0 : Nat) : Int) = (0 : Int) from rfl] at a1 b1
      rw [hk_Wj_end] at a2 a3
      rw [hk_Di_end hA.2.2.1 h100] at b2
      rw [if_pos (by omega), a1, pr_b]
      dsimp only
      rw [b1, pr_b]
      dsimp only
      rw [show (l : Int) + 1 = ((l + 1 : Nat) : Int) by omega]
      exact ih (l + 1) pa1 dl1 dw1 hl1 hw1 q (by omega) b2 a2 a3
    · rw [if_neg (by omega)]
      have : l = nl := by omega
      rw [this] at hD hW hp
      exact ⟨pa, dl, dw, hl2, hw2, rfl, hD, hW, hp⟩
theorem qk_L6 {lk g ob pm km lv ra : Int} {z18 : Int × Int} {A : List Nat} {tw2 olds : Nat → Int} {tw : Nat → Nat} (hK : hk_K A tw) {U : Nat → Bool} (hA : ∀ o ∈ A, o < 100 ∧ U o = true ∧ U (tw o) = true) (eo : ∀ (i : Nat) (h : i < A.length), olds i = ((A[i] : Nat) : Int)) (ht : ∀ y, y < 100 → tw2 y = if y ∈ A then ((tw y : Nat) : Int) else -1) {nl l : Nat} {fo fr ru to fo2 fr2 ru2 to2 : Nat → Int} (hT : ht_R nl fo fr ru to fo2 fr2 ru2 to2) (hl : l < nl) {w : Nat → Nat → List Nat} :
    ∀ (n j : Nat) (has hasMany : Nat → Int), j ≤ A.length → A.length + 1 ≤ j + n → qu_R U (hk_Wj fo ru A tw w l j) hasMany has →
      ∃ (has' hasMany' : Nat → Int), fX10_copy_L6 lk pm km lv ra fo2 ru2 (A.length : Int) olds z18 ob g tw2 (l : Int) n (j : Int) has hasMany = some (has', hasMany') ∧ qu_R U (hk_Wj fo ru A tw w l A.length) hasMany' has' := by
  have hAl := ps_len 100 A hK.1 (fun o ho => (hA o ho).1)
  intro n
  induction n with
  | zero => intro j has hasMany a b; omega
  | succ n ih =>
    intro j has hasMany hj hn2 hR
    rw [fX10_copy_L6, tl_gt ⟨⟨by omega, by omega⟩, ⟨by omega, by omega⟩⟩]
    by_cases q : j < A.length
    · have ho := List.getElem_mem q
      have hto : tw A[j] ≠ A[j] := fun z => (hK.2.1 _ ho).2 (by rw [z]; exact ho)
      obtain ⟨has', hasMany', a1, a2⟩ := qk_has (t := z18.2) (lk := lk) (ob := ob) (g := g) (pm := pm) (km := km) (lv := lv) (ra := ra) ht (fun o ho => ⟨(hK.2.1 o ho).1, (hA o ho).2.2⟩) hT hl ho (hA _ ho).1 (hA _ ho).2.1 hto (hk_Wj_new hK q) hR
      rw [hk_Wj_step hK q] at a2
      rw [if_pos (by omega), tl_gt ⟨by omega, by omega⟩, Int.toNat_natCast, eo j q, a1, pr_b, show (j : Int) + 1 = ((j + 1 : Nat) : Int) by omega]
      exact ih (j + 1) has' hasMany' q (by omega) a2
    · rw [if_neg (by omega)]
      have : j = A.length := by omega
      rw [this] at hR
      exact ⟨has, hasMany, rfl, hR⟩
theorem qk_L7 {lk g ob pm km lv ra : Int} {z18 : Int × Int} {A : List Nat} {tw2 used : Nat → Int} {tw : Nat → Nat} (hK : hk_K A tw) {U : Nat → Bool} (hA : ∀ o ∈ A, o < 100 ∧ U o = true ∧ U (tw o) = true) (hu : ∀ k, k < 100 → used k = if U k = true then 1 else 0) (ht : ∀ y, y < 100 → tw2 y = if y ∈ A then ((tw y : Nat) : Int) else -1) {nl l : Nat} {fo fr ru to fo2 fr2 ru2 to2 : Nat → Int} (hT : ht_R nl fo fr ru to fo2 fr2 ru2 to2) (hl : l < nl) {d : Nat → Nat → List Nat} (h12 : ∀ l s, (d l s).length ≤ 12) (hno : ∀ l s, U s = false → d l s = []) (hcr : ¬ hk_cr nl fo ru A d) :
    ∀ (n i : Nat) (had hadMany : Nat → Int), i ≤ 100 → 101 ≤ i + n → qu_R U (hk_Di fo ru A tw d l i) hadMany had →
      ∃ (had' hadMany' : Nat → Int), fX10_copy_L7 lk pm km lv ra fo2 ru2 z18 ob g tw2 used (l : Int) n (i : Int) had hadMany = some (had', hadMany') ∧ qu_R U (hk_Di fo ru A tw d l 100) hadMany' had' := by
  intro n
  induction n with
  | zero => intro i had hadMany a b; omega
  | succ n ih =>
    intro i had hadMany hi hn2 hR
    by_cases q : i < 100
    · obtain ⟨had', hadMany', a1, a2⟩ := qk_had (lk := lk) (g := g) (ob := ob) (pm := pm) (km := km) (lv := lv) (ra := ra) (z18 := z18) ht (fun o ho => ⟨(hK.2.1 o ho).1, (hA o ho).2.2⟩) (fun o ho => ⟨(hA o ho).2.1, fun z => (hK.2.1 _ ho).2 (by rw [z]; exact ho)⟩) hu hT hl q (fun z => by
        rw [hk_Di_at]
        cases e : hk_tb A tw i with
        | none =>
          dsimp only
          rw [hno l i z, hk_mp_nil]
          by_cases k : hk_keep fo ru l ∧ i ∉ A ∧ i < i
          · rw [if_pos k]
            rfl
          · rw [if_neg k]
        | some o =>
          obtain ⟨e1, e2⟩ := hk_tb_some e
          have := (hA o e1).2.2
          rw [e2, z] at this
          cases this) (hk_Di_12 hK h12 hl q hcr) hR
      rw [hk_Di_step hK] at a1
      rw [a2 n]
      exact ih (i + 1) had' hadMany' q (by omega) a1
    · have e : i = 100 := by omega
      subst e
      rw [fX10_copy_L7, tl_gt (by decide), if_neg (by decide)]
      exact ⟨had, hadMany, rfl, hR⟩
theorem qk_L5 {lk g ob pm km lv ra : Int} {z18 : Int × Int} {A : List Nat} {tw2 olds used : Nat → Int} {tw : Nat → Nat} (hK : hk_K A tw) {U : Nat → Bool} (hA : ∀ o ∈ A, o < 100 ∧ U o = true ∧ U (tw o) = true) (hu : ∀ k, k < 100 → used k = if U k = true then 1 else 0) (eo : ∀ (i : Nat) (h : i < A.length), olds i = ((A[i] : Nat) : Int)) (ht : ∀ y, y < 100 → tw2 y = if y ∈ A then ((tw y : Nat) : Int) else -1) {nl : Nat} {fo fr ru to fo2 fr2 ru2 to2 : Nat → Int} (hT : ht_R nl fo fr ru to fo2 fr2 ru2 to2) {w d : Nat → Nat → List Nat} (h0 : ∀ l, ∀ o ∈ A, w l (tw o) = [] ∧ d l (tw o) = []) (h12 : ∀ l s, (d l s).length ≤ 12) (h100 : ∀ l s, 100 ≤ s → d l s = []) (hno : ∀ l s, U s = false → d l s = []) (hcr : ¬ hk_cr nl fo ru A d) (hlk : lk = (nl : Int)) :
    ∀ (n l : Nat) (had hadMany has hasMany : Nat → Int), l ≤ nl → nl + 1 ≤ l + n → qu_R U (hk_Dl fo ru A tw d l) hadMany had → qu_R U (hk_Wl fo ru A tw w l) hasMany has →
      ∃ (had' hadMany' has' hasMany' : Nat → Int), fX10_copy_L5 lk pm km lv ra fo2 ru2 (A.length : Int) olds z18 ob g tw2 used n (l : Int) had hadMany has hasMany = some (had', hadMany', has', hasMany') ∧ qu_R U (hk_Dl fo ru A tw d nl) hadMany' had' ∧ qu_R U (hk_Wl fo ru A tw w nl) hasMany' has' := by
  subst hlk
  have hn := hT.1
  have hAl := ps_len 100 A hK.1 (fun o ho => (hA o ho).1)
  intro n
  induction n with
  | zero => intro l had hadMany has hasMany a b; omega
  | succ n ih =>
    intro l had hadMany has hasMany hl hn2 hD hW
    rw [fX10_copy_L5, tl_gt ⟨⟨by omega, by omega⟩, ⟨by omega, by omega⟩⟩]
    by_cases q : l < nl
    · rw [← hk_Wj_0 (fun l o ho => (h0 l o ho).1)] at hW
      rw [← hk_Di_0 (fun l o ho => (h0 l o ho).2)] at hD
      obtain ⟨has1, hasMany1, a1, a2⟩ := qk_L6 (lk := (nl : Int)) (g := g) (ob := ob) (pm := pm) (km := km) (lv := lv) (ra := ra) (z18 := z18) hK hA eo ht hT q (w := w) tl_N 0 has hasMany (Nat.zero_le _) (by unfold tl_N; omega) hW
      obtain ⟨had1, hadMany1, b1, b2⟩ := qk_L7 (lk := (nl : Int)) (g := g) (ob := ob) (pm := pm) (km := km) (lv := lv) (ra := ra) (z18 := z18) hK hA hu ht hT q h12 hno hcr tl_N 0 had hadMany (Nat.zero_le _) (by unfold tl_N; omega) hD
      rw [show ((0 : Nat) : Int) = (0 : Int) from rfl] at a1 b1
      rw [hk_Wj_end] at a2
      rw [hk_Di_end (fun o ho => (hA o ho).1) h100] at b2
      rw [if_pos (by omega), a1, pr_b]
      dsimp only
      rw [b1, pr_b]
      dsimp only
      rw [show (l : Int) + 1 = ((l + 1 : Nat) : Int) by omega]
      exact ih (l + 1) had1 hadMany1 has1 hasMany1 q (by omega) b2 a2
    · rw [if_neg (by omega)]
      have : l = nl := by omega
      rw [this] at hD hW
      exact ⟨had, hadMany, has, hasMany, rfl, hD, hW⟩
