/-! ask: how many own it, how many it owns, how many are near -/
theorem hs_cnt_len : ∀ (n : Nat) (S : List Nat), S.Nodup → (∀ x ∈ S, x < n) → hs_sum (fun k => if k ∈ S then 1 else 0) n = S.length
  | 0, S, _, h => by
    cases S with
    | nil => rfl
    | cons a l => exact absurd (h a List.mem_cons_self) (Nat.not_lt_zero a)
  | n + 1, S, hd, h => by
    rw [hs_sum]
    by_cases hm : n ∈ S
    · have h1 := hs_cnt_len n (S.erase n) (hd.erase n) (fun x hx => by
        have h3 := (hd.mem_erase_iff).mp hx
        have h4 := h x h3.2
        have h5 := h3.1
        omega)
      have h2 := List.length_erase_of_mem hm
      have h6 := List.length_pos_of_mem hm
      rw [hs_sum_eq (g := fun k => if k ∈ S.erase n then 1 else 0) n (fun k hk => by
        have hne : k ≠ n := by omega
        simp only [hd.mem_erase_iff, hne, ne_eq, not_false_eq_true, true_and]), h1, if_pos hm]
      omega
    · rw [hs_cnt_len n S hd (fun x hx => by
        have h4 := h x hx
        have h5 : x ≠ n := fun e => hm (e ▸ hx)
        omega), if_neg hm]
      rfl
theorem hq_owns_L {t o m pm km lv ra : Int} {nl : Nat} {fo fr ru to fo2 fr2 ru2 to2 : Nat → Int} (hT : ht_R nl fo fr ru to fo2 fr2 ru2 to2) {U : Nat → Bool} {w : Nat → Nat → List Nat} {has hasMany : Nat → Int} (hh : qu_R U w hasMany has) {x y : Nat} (hx : x < 100) (hy : y < 100) (hU : U x = true) :
    ∀ (n m2 l : Nat), l + m2 = nl → m2 + 1 ≤ n → fX10_owns_L1 t (nl : Int) o m pm km lv ra has hasMany ru2 (x : Int) (y : Int) n (l : Int) = some (if y ∈ pw_from ru w x m2 l then .inr 1 else .inl ()) := by
  have hn := hT.1
  intro n
  induction n with
  | zero => intro m2 l h1 h2; omega
  | succ n ih =>
    intro m2 l hlm hn2
    rw [fX10_owns_L1, tl_gt ⟨⟨by omega, by omega⟩, ⟨by omega, by omega⟩⟩]
    cases m2 with
    | zero =>
      rw [if_neg (by omega), pw_from, if_neg (by simp)]
    | succ m2 =>
      have hTl := hT.2 l (by omega)
      have hru := hTl.2.2.1
      rw [if_pos (by omega), tl_gt ⟨by omega, by omega⟩, Int.toNat_natCast, hru, tl_gt ⟨⟨by omega, by omega⟩, by decide⟩, show (l : Int) + 1 = ((l + 1 : Nat) : Int) by omega, pw_from]
      by_cases q : ru l = 1
      · rw [if_pos q, if_pos q, hq_isHad hh (by omega) hx hy hU, pr_b]
        by_cases r : y ∈ w l x
        · rw [if_pos r, tl_gt (by decide), if_neg (by decide), if_pos (List.mem_append_left _ r)]
        · rw [if_neg r, tl_gt (by decide), if_pos rfl, ih m2 (l + 1) (by omega) (by omega)]
          by_cases z : y ∈ pw_from ru w x m2 (l + 1)
          · rw [if_pos z, if_pos (List.mem_append_right _ z)]
          · rw [if_neg z, if_neg (fun v => (List.mem_append.mp v).elim r z)]
      · rw [if_neg q, if_neg q, List.nil_append]
        exact ih m2 (l + 1) (by omega) (by omega)
theorem hq_owns {t o m pm km lv ra : Int} {nl : Nat} {fo fr ru to fo2 fr2 ru2 to2 : Nat → Int} (hT : ht_R nl fo fr ru to fo2 fr2 ru2 to2) {U : Nat → Bool} {w : Nat → Nat → List Nat} {has hasMany : Nat → Int} (hh : qu_R U w hasMany has) {x y : Nat} (hx : x < 100) (hy : y < 100) (hU : U x = true) : fX10_owns t (nl : Int) o m pm km lv ra has hasMany ru2 (x : Int) (y : Int) = some (if y ∈ pw_own nl ru w x then 1 else 0) := by
  have e := hq_owns_L (t := t) (o := o) (m := m) (pm := pm) (km := km) (lv := lv) (ra := ra) hT hh hx hy hU tl_N nl 0 (by omega) (by have := hT.1; unfold tl_N; omega)
  rw [show ((0 : Nat) : Int) = (0 : Int) from rfl] at e
  unfold fX10_owns pw_own
  rw [e, pr_b]
  by_cases q : y ∈ pw_from ru w x nl 0
  · rw [if_pos q, if_pos q]
  · rw [if_neg q, if_neg q]
theorem hq_owners_L {t o m pm km lv ra : Int} {nl : Nat} {fo fr ru to fo2 fr2 ru2 to2 : Nat → Int} (hT : ht_R nl fo fr ru to fo2 fr2 ru2 to2) {g : Int} {U : Nat → Bool} {nu : Nat → Int} {w d : Nat → Nat → List Nat} (h : hs_I nl fo ru g U nu w d) {has hasMany used : Nat → Int} (hh : qu_R U w hasMany has) (hu : ∀ k, k < 100 → used k = if U k = true then 1 else 0) {x : Nat} (hx : x < 100) (hU : U x = true) :
    ∀ (n i : Nat) (acc : Int), i ≤ 100 → 101 ≤ i + n → acc = (hs_sum (fun k => if x ∈ pw_own nl ru w k then 1 else 0) i : Nat) → fX10_owners_L1 t (nl : Int) o m pm km lv ra has hasMany ru2 used (x : Int) n (i : Int) acc = some ((hs_sum (fun k => if x ∈ pw_own nl ru w k then 1 else 0) 100 : Nat) : Int) := by
  intro n
  induction n with
  | zero => intro i acc h1 h2; omega
  | succ n ih =>
    intro i acc hi hn ha
    rw [fX10_owners_L1, tl_gt ⟨⟨by omega, by omega⟩, by decide⟩]
    by_cases q : i < 100
    · have hR := hq_uR hu i q
      rw [if_pos (by omega), tl_gt ⟨by omega, by omega⟩, Int.toNat_natCast, tl_gt hR, show (i : Int) + 1 = ((i + 1 : Nat) : Int) by omega]
      by_cases r : U i = true
      · rw [hu i q, if_pos r, if_neg (by decide), hq_owns hT hh q hx r, pr_b]
        by_cases v : x ∈ pw_own nl ru w i
        · rw [if_pos v, tl_gt (by decide), if_neg (by decide)]
          refine ih (i + 1) _ (by omega) (by omega) ?_
          rw [hs_sum, ha, if_pos v]
          omega
        · rw [if_neg v, tl_gt (by decide), if_pos rfl]
          refine ih (i + 1) _ (by omega) (by omega) ?_
          rw [hs_sum, ha, if_neg v]
          rfl
      · rw [hu i q, if_neg r, if_pos rfl]
        refine ih (i + 1) _ (by omega) (by omega) ?_
        have v : ¬ (x ∈ pw_own nl ru w i) := fun z => r (hs_own_w h z).2.2.1
        rw [hs_sum, ha, if_neg v]
        rfl
    · rw [if_neg (by omega)]
      have : i = 100 := by omega
      rw [ha, this]
theorem hq_owned_L {t o m pm km lv ra : Int} {nl : Nat} {fo fr ru to fo2 fr2 ru2 to2 : Nat → Int} (hT : ht_R nl fo fr ru to fo2 fr2 ru2 to2) {g : Int} {U : Nat → Bool} {nu : Nat → Int} {w d : Nat → Nat → List Nat} (h : hs_I nl fo ru g U nu w d) {has hasMany used : Nat → Int} (hh : qu_R U w hasMany has) (hu : ∀ k, k < 100 → used k = if U k = true then 1 else 0) {x : Nat} (hx : x < 100) (hU : U x = true) :
    ∀ (n i : Nat) (acc : Int), i ≤ 100 → 101 ≤ i + n → acc = (hs_sum (fun k => if k ∈ pw_own nl ru w x then 1 else 0) i : Nat) → fX10_owned_L1 t (nl : Int) o m pm km lv ra has hasMany ru2 used (x : Int) n (i : Int) acc = some ((hs_sum (fun k => if k ∈ pw_own nl ru w x then 1 else 0) 100 : Nat) : Int) := by
  intro n
  induction n with
  | zero => intro i acc h1 h2; omega
  | succ n ih =>
    intro i acc hi hn ha
    rw [fX10_owned_L1, tl_gt ⟨⟨by omega, by omega⟩, by decide⟩]
    by_cases q : i < 100
    · have hR := hq_uR hu i q
      rw [if_pos (by omega), tl_gt ⟨by omega, by omega⟩, Int.toNat_natCast, tl_gt hR, show (i : Int) + 1 = ((i + 1 : Nat) : Int) by omega]
      by_cases r : U i = true
      · rw [hu i q, if_pos r, if_neg (by decide), hq_owns hT hh hx q hU, pr_b]
        by_cases v : i ∈ pw_own nl ru w x
        · rw [if_pos v, tl_gt (by decide), if_neg (by decide)]
          refine ih (i + 1) _ (by omega) (by omega) ?_
          rw [hs_sum, ha, if_pos v]
          omega
        · rw [if_neg v, tl_gt (by decide), if_pos rfl]
          refine ih (i + 1) _ (by omega) (by omega) ?_
          rw [hs_sum, ha, if_neg v]
          rfl
      · rw [hu i q, if_neg r, if_pos rfl]
        refine ih (i + 1) _ (by omega) (by omega) ?_
        have v : ¬ (i ∈ pw_own nl ru w x) := fun z => r (hs_own_w h z).2.2.2.1
        rw [hs_sum, ha, if_neg v]
        rfl
    · rw [if_neg (by omega)]
      have : i = 100 := by omega
      rw [ha, this]
theorem hq_owners {t o m pm km lv ra : Int} {nl : Nat} {fo fr ru to fo2 fr2 ru2 to2 : Nat → Int} (hT : ht_R nl fo fr ru to fo2 fr2 ru2 to2) {g : Int} {U : Nat → Bool} {nu : Nat → Int} {w d : Nat → Nat → List Nat} (h : hs_I nl fo ru g U nu w d) {has hasMany used : Nat → Int} (hh : qu_R U w hasMany has) (hu : ∀ k, k < 100 → used k = if U k = true then 1 else 0) {x : Nat} (hx : x < 100) (hU : U x = true) : fX10_owners t (nl : Int) o m pm km lv ra has hasMany ru2 used (x : Int) = some ((pr_addAll [] (pw_own nl ru d x)).length : Int) := by
  have e := hq_owners_L (t := t) (o := o) (m := m) (pm := pm) (km := km) (lv := lv) (ra := ra) hT h hh hu hx hU tl_N 0 0 (by omega) (by unfold tl_N; omega) (by rw [hs_sum]; rfl)
  rw [show ((0 : Nat) : Int) = (0 : Int) from rfl] at e
  have hm : ∀ y, y ∈ pr_addAll [] (pw_own nl ru d x) ↔ y ∈ pw_own nl ru d x := fun y => by
    rw [pr_mem_addAll]
    simp
  have c := hs_cnt_len 100 (pr_addAll [] (pw_own nl ru d x)) (pr_addAll_nd _ _ List.nodup_nil) (fun y hy => (hs_own_d h ((hm y).mp hy)).2.1)
  rw [← hs_sum_eq 100 (f := fun k => if x ∈ pw_own nl ru w k then 1 else 0) (fun k _ => by
    by_cases v : x ∈ pw_own nl ru w k
    · rw [if_pos v, if_pos ((hm k).mpr (hs_own_w h v).2.2.2.2)]
    · rw [if_neg v, if_neg (fun z => v (hs_own_d h ((hm k).mp z)).2.2.2.2)])] at c
  unfold fX10_owners
  rw [e, pr_b, c]
theorem hq_owned {t o m pm km lv ra : Int} {nl : Nat} {fo fr ru to fo2 fr2 ru2 to2 : Nat → Int} (hT : ht_R nl fo fr ru to fo2 fr2 ru2 to2) {g : Int} {U : Nat → Bool} {nu : Nat → Int} {w d : Nat → Nat → List Nat} (h : hs_I nl fo ru g U nu w d) {has hasMany used : Nat → Int} (hh : qu_R U w hasMany has) (hu : ∀ k, k < 100 → used k = if U k = true then 1 else 0) {x : Nat} (hx : x < 100) (hU : U x = true) : fX10_owned t (nl : Int) o m pm km lv ra has hasMany ru2 used (x : Int) = some ((pr_addAll [] (pw_own nl ru w x)).length : Int) := by
  have e := hq_owned_L (t := t) (o := o) (m := m) (pm := pm) (km := km) (lv := lv) (ra := ra) hT h hh hu hx hU tl_N 0 0 (by omega) (by unfold tl_N; omega) (by rw [hs_sum]; rfl)
  rw [show ((0 : Nat) : Int) = (0 : Int) from rfl] at e
  have hm : ∀ y, y ∈ pr_addAll [] (pw_own nl ru w x) ↔ y ∈ pw_own nl ru w x := fun y => by
    rw [pr_mem_addAll]
    simp
  have c := hs_cnt_len 100 (pr_addAll [] (pw_own nl ru w x)) (pr_addAll_nd _ _ List.nodup_nil) (fun y hy => (hs_own_w h ((hm y).mp hy)).2.1)
  rw [← hs_sum_eq 100 (f := fun k => if k ∈ pw_own nl ru w x then 1 else 0) (fun k _ => by
    by_cases v : k ∈ pw_own nl ru w x
    · rw [if_pos v, if_pos ((hm k).mpr v)]
    · rw [if_neg v, if_neg (fun z => v ((hm k).mp z))])] at c
  unfold fX10_owned
  rw [e, pr_b, c]
theorem hc_many {nl x : Nat} {rules : Nat → Int} {Rw : Nat → Nat → List Nat} {len : Nat → Int} {w : Nat → Int64} (h : pr_R Rw len w) (hn : nl ≤ 10) (hr : ∀ l, l < nl → tl_R (rules l)) (hx : x < 100) {S : List Nat} {sl : Int} {ins lst : Nat → Int} (hS : ps_S S sl ins lst) :
    ∃ (S' : List Nat) (ins' lst' : Nat → Int) (sl' : Int), fX8_howManyOwning sl ins lst (nl : Int) rules len w (x : Int) = some (((pr_addAll [] (pw_own nl rules Rw x)).length : Int), ins', lst', sl') ∧ ps_S S' sl' ins' lst' := by
  obtain ⟨ins1, h1, h2⟩ := ps_clear hS
  obtain ⟨ins2, lst2, sl2, h3, h4⟩ := pw_addOwning (s := x) h hn hx hr (h2 lst)
  unfold fX8_howManyOwning fX4_length
  rw [h1, pr_b, h3, pr_b, pr_b]
  refine ⟨_, ins2, lst2, sl2, ?_, h4⟩
  rw [← h4.1]
def hs_nf (w d : Nat → Nat → List Nat) (x : Nat) : Nat → Nat → List Nat
  | 0, _ => []
  | m + 1, l => w l x ++ (d l x ++ hs_nf w d x m (l + 1))
theorem hs_mem_nf {w d : Nat → Nat → List Nat} {x y : Nat} : ∀ (m l : Nat), y ∈ hs_nf w d x m l ↔ ∃ k, l ≤ k ∧ k < l + m ∧ (y ∈ w k x ∨ y ∈ d k x)
  | 0, l => ⟨fun h => (by cases h), fun ⟨k, h1, h2, _⟩ => (by omega)⟩
  | m + 1, l => by
    rw [hs_nf, List.mem_append, List.mem_append, hs_mem_nf m (l + 1)]
    constructor
    · rintro (h | h | ⟨k, h1, h2, h3⟩)
      · exact ⟨l, Nat.le_refl _, by omega, Or.inl h⟩
      · exact ⟨l, Nat.le_refl _, by omega, Or.inr h⟩
      · exact ⟨k, by omega, by omega, h3⟩
    · rintro ⟨k, h1, h2, h3⟩
      by_cases hk : k = l
      · subst hk
        rcases h3 with z | z
        · exact Or.inl z
        · exact Or.inr (Or.inl z)
      · exact Or.inr (Or.inr ⟨k, by omega, by omega, h3⟩)
theorem hc_near_L {ob pa : Int} {nl x : Nat} {w d : Nat → Nat → List Nat} {dl : Nat → Int} {dw : Nat → Int64} {hl : Nat → Int} {hw : Nat → Int64} (hd : pr_R d dl dw) (hh : pr_R w hl hw) (hn : nl ≤ 10) (hx : x < 100) :
    ∀ (n m l : Nat) (S : List Nat) (sl : Int) (ins lst : Nat → Int), l + m = nl → m + 1 ≤ n → ps_S S sl ins lst → ∃ (sl' : Int) (ins' lst' : Nat → Int), fX8_howManyNear_L1 (nl : Int) ob pa dl dw hl hw (x : Int) n (l : Int) sl ins lst = some (sl', ins', lst') ∧ ps_S (pr_addAll S (hs_nf w d x m l)) sl' ins' lst' := by
  intro n
  induction n with
  | zero => intro m l S sl ins lst h1 h2; omega
  | succ n ih =>
    intro m l S sl ins lst hlm hn2 hS
    rw [fX8_howManyNear_L1]
    unfold fX5_howMany fX1_has fX1_had
    rw [pr_b, tl_gt ⟨⟨by omega, by omega⟩, ⟨by omega, by omega⟩⟩]
    cases m with
    | zero =>
      rw [if_neg (by omega)]
      exact ⟨sl, ins, lst, rfl, hS⟩
    | succ m =>
      obtain ⟨ins2, lst2, sl2, h1, h2⟩ := pr_addTo hh (l := l) (s := x) (by omega) hx hS
      obtain ⟨ins3, lst3, sl3, h3, h4⟩ := pr_addTo hd (l := l) (s := x) (by omega) hx h2
      rw [if_pos (by omega), pr_b, h1, pr_b, pr_b, h3, pr_b, show (l : Int) + 1 = ((l + 1 : Nat) : Int) by omega, hs_nf, pr_addAll_app, pr_addAll_app]
      exact ih m (l + 1) _ sl3 ins3 lst3 (by omega) (by omega) h4
theorem hc_near {ob pa : Int} {nl x : Nat} {w d : Nat → Nat → List Nat} {dl : Nat → Int} {dw : Nat → Int64} {hl : Nat → Int} {hw : Nat → Int64} (hd : pr_R d dl dw) (hh : pr_R w hl hw) (hn : nl ≤ 10) (hx : x < 100) {S : List Nat} {sl : Int} {ins lst : Nat → Int} (hS : ps_S S sl ins lst) :
    ∃ (S' : List Nat) (ins' lst' : Nat → Int) (sl' : Int), fX8_howManyNear sl ins lst (nl : Int) ob pa dl dw hl hw (x : Int) = some (((pr_addAll [] (hs_nf w d x nl 0)).length : Int), ins', lst', sl') ∧ ps_S S' sl' ins' lst' := by
  obtain ⟨ins1, h1, h2⟩ := ps_clear hS
  obtain ⟨sl2, ins2, lst2, h3, h4⟩ := hc_near_L (ob := ob) (pa := pa) hd hh hn hx tl_N nl 0 [] 0 ins1 lst (by omega) (by unfold tl_N; omega) (h2 lst)
  rw [show ((0 : Nat) : Int) = (0 : Int) from rfl] at h3
  unfold fX8_howManyNear fX4_length
  rw [h1, pr_b]
  dsimp only
  rw [h3, pr_b]
  dsimp only
  rw [pr_b]
  refine ⟨_, ins2, lst2, sl2, ?_, h4⟩
  rw [← h4.1]
theorem hq_near2 {t o m pm km lv ra : Int} {nl : Nat} (hn : nl ≤ 10) {U : Nat → Bool} {w d : Nat → Nat → List Nat} (tw : ∀ l s x, x ∈ w l s ↔ s ∈ d l x) {has hasMany used : Nat → Int} (hh : qu_R U w hasMany has) (hu : ∀ k, k < 100 → used k = if U k = true then 1 else 0) {x k : Nat} (hx : x < 100) (hU : U x = true) (hk : k < 100) (hUk : U k = true) :
    ∀ (n m2 l : Nat) (acc : Int), l + m2 = nl → m2 + 1 ≤ n → fX10_near_L2 t (nl : Int) o m pm km lv ra has hasMany used (x : Int) (k : Int) n (l : Int) acc = some (if k ∈ hs_nf w d x m2 l then 1 else acc) := by
  intro n
  induction n with
  | zero => intro m2 l acc h1 h2; omega
  | succ n ih =>
    intro m2 l acc hlm hn2
    rw [fX10_near_L2, tl_gt ⟨⟨by omega, by omega⟩, ⟨by omega, by omega⟩⟩]
    cases m2 with
    | zero =>
      rw [if_neg (by omega), hs_nf, if_neg (by simp)]
    | succ m2 =>
      rw [if_pos (by omega), tl_gt ⟨by omega, by omega⟩, Int.toNat_natCast, tl_gt (hq_uR hu k hk), hu k hk, if_pos hUk, if_neg (by decide), hq_isHad hh (by omega) hx hk hU, pr_b, show (l : Int) + 1 = ((l + 1 : Nat) : Int) by omega, hs_nf]
      have fin : ∀ a : Int, fX10_near_L2 t (nl : Int) o m pm km lv ra has hasMany used (x : Int) (k : Int) n ((l + 1 : Nat) : Int) 1 = some 1 := by
        intro a
        rw [ih m2 (l + 1) 1 (by omega) (by omega)]
        by_cases z : k ∈ hs_nf w d x m2 (l + 1)
        · rw [if_pos z]
        · rw [if_neg z]
      by_cases r : k ∈ w l x
      · rw [if_pos r, tl_gt (by decide), if_neg (by decide), fin 0, if_pos (List.mem_append_left _ r)]
      · rw [if_neg r, tl_gt (by decide), if_pos rfl, hq_isHad hh (by omega) hk hx hUk, pr_b]
        by_cases v : x ∈ w l k
        · rw [if_pos v, tl_gt (by decide), if_neg (by decide), fin 0, if_pos (List.mem_append_right _ (List.mem_append_left _ ((tw l k x).mp v)))]
        · rw [if_neg v, tl_gt (by decide), if_pos rfl, ih m2 (l + 1) acc (by omega) (by omega)]
          by_cases z : k ∈ hs_nf w d x m2 (l + 1)
          · rw [if_pos z, if_pos (List.mem_append_right _ (List.mem_append_right _ z))]
          · rw [if_neg z, if_neg (fun q => (List.mem_append.mp q).elim r (fun q => (List.mem_append.mp q).elim (fun q => v ((tw l k x).mpr q)) z))]
theorem hq_near1 {t o m pm km lv ra : Int} {nl : Nat} {fo ru : Nat → Int} (hn : nl ≤ 10) {g : Int} {U : Nat → Bool} {nu : Nat → Int} {w d : Nat → Nat → List Nat} (h : hs_I nl fo ru g U nu w d) {has hasMany used : Nat → Int} (hh : qu_R U w hasMany has) (hu : ∀ k, k < 100 → used k = if U k = true then 1 else 0) {x : Nat} (hx : x < 100) (hU : U x = true) :
    ∀ (n i : Nat) (acc : Int), i ≤ 100 → 101 ≤ i + n → acc = (hs_sum (fun k => if k ∈ hs_nf w d x nl 0 then 1 else 0) i : Nat) → fX10_near_L1 t (nl : Int) o m pm km lv ra has hasMany used (x : Int) n (i : Int) acc = some ((hs_sum (fun k => if k ∈ hs_nf w d x nl 0 then 1 else 0) 100 : Nat) : Int) := by
  intro n
  induction n with
  | zero => intro i acc h1 h2; omega
  | succ n ih =>
    intro i acc hi hn3 ha
    rw [fX10_near_L1, tl_gt ⟨⟨by omega, by omega⟩, by decide⟩]
    by_cases q : i < 100
    · rw [if_pos (by omega), show (i : Int) + 1 = ((i + 1 : Nat) : Int) by omega]
      by_cases r : U i = true
      · have e := hq_near2 (t := t) (o := o) (m := m) (pm := pm) (km := km) (lv := lv) (ra := ra) hn h.tw hh hu hx hU q r tl_N nl 0 0 (by omega) (by unfold tl_N; omega)
        rw [show ((0 : Nat) : Int) = (0 : Int) from rfl] at e
        rw [e, pr_b]
        by_cases v : i ∈ hs_nf w d x nl 0
        · rw [if_pos v, tl_gt (by decide), if_neg (by decide)]
          refine ih (i + 1) _ (by omega) (by omega) ?_
          rw [hs_sum, ha, if_pos v]
          omega
        · rw [if_neg v, tl_gt (by decide), if_pos rfl]
          refine ih (i + 1) _ (by omega) (by omega) ?_
          rw [hs_sum, ha, if_neg v]
          rfl
      · obtain ⟨n9, hn9⟩ : ∃ n9, tl_N = n9 + 1 := ⟨999999, by unfold tl_N; omega⟩
        have v : ¬ (i ∈ hs_nf w d x nl 0) := by
          intro z
          obtain ⟨k, _, _, z3⟩ := (hs_mem_nf nl 0).mp z
          rcases z3 with z3 | z3
          · exact r (h.row k x i z3).2.2.2.2
          · exact r (h.row k i x ((h.tw k i x).mpr z3)).2.2.2.1
        have e : fX10_near_L2 t (nl : Int) o m pm km lv ra has hasMany used (x : Int) (i : Int) tl_N 0 0 = some 0 := by
          rw [hn9, fX10_near_L2, tl_gt ⟨by decide, ⟨by omega, by omega⟩⟩]
          by_cases z : (0 : Int) < (nl : Int)
          · rw [if_pos z, tl_gt ⟨by omega, by omega⟩, Int.toNat_natCast, tl_gt (hq_uR hu i q), hu i q, if_neg r, if_pos rfl]
          · rw [if_neg z]
        rw [e, pr_b, tl_gt (by decide), if_pos rfl]
        refine ih (i + 1) _ (by omega) (by omega) ?_
        rw [hs_sum, ha, if_neg v]
        rfl
    · rw [if_neg (by omega)]
      have : i = 100 := by omega
      rw [ha, this]
theorem hq_near {t o m pm km lv ra : Int} {nl : Nat} {fo ru : Nat → Int} (hn : nl ≤ 10) {g : Int} {U : Nat → Bool} {nu : Nat → Int} {w d : Nat → Nat → List Nat} (h : hs_I nl fo ru g U nu w d) {has hasMany used : Nat → Int} (hh : qu_R U w hasMany has) (hu : ∀ k, k < 100 → used k = if U k = true then 1 else 0) {x : Nat} (hx : x < 100) (hU : U x = true) : fX10_near t (nl : Int) o m pm km lv ra has hasMany used (x : Int) = some ((pr_addAll [] (hs_nf w d x nl 0)).length : Int) := by
  have e := hq_near1 (t := t) (o := o) (m := m) (pm := pm) (km := km) (lv := lv) (ra := ra) hn h hh hu hx hU tl_N 0 0 (by omega) (by unfold tl_N; omega) (by rw [hs_sum]; rfl)
  rw [show ((0 : Nat) : Int) = (0 : Int) from rfl] at e
  have hm : ∀ y, y ∈ pr_addAll [] (hs_nf w d x nl 0) ↔ y ∈ hs_nf w d x nl 0 := fun y => by
    rw [pr_mem_addAll]
    simp
  have c := hs_cnt_len 100 (pr_addAll [] (hs_nf w d x nl 0)) (pr_addAll_nd _ _ List.nodup_nil) (fun y hy => by
    obtain ⟨k, _, _, z3⟩ := (hs_mem_nf nl 0).mp ((hm y).mp hy)
    rcases z3 with z3 | z3
    · exact (h.row k x y z3).2.2.1
    · exact (h.row k y x ((h.tw k y x).mpr z3)).2.1)
  rw [← hs_sum_eq 100 (f := fun k => if k ∈ hs_nf w d x nl 0 then 1 else 0) (fun k _ => by
    by_cases v : k ∈ hs_nf w d x nl 0
    · rw [if_pos v, if_pos ((hm k).mpr v)]
    · rw [if_neg v, if_neg (fun z => v ((hm k).mp z))])] at c
  unfold fX10_near
  rw [e, pr_b, c]
