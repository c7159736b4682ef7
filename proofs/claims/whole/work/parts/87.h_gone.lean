/-! drop: who goes -/
def hg_cl (own : Nat → List Nat) (p : Nat) (S : Nat → Prop) : Prop := S p ∧ ∀ y, own y ≠ [] → (∀ z ∈ own y, S z) → S y
def hg_G (own : Nat → List Nat) (p k : Nat) : Prop := ∀ S, hg_cl own p S → S k
theorem hg_p {own : Nat → List Nat} {p : Nat} : hg_G own p p := fun _ h => h.1
theorem hg_add {own : Nat → List Nat} {p y : Nat} (h1 : own y ≠ []) (h2 : ∀ z ∈ own y, hg_G own p z) : hg_G own p y := fun S h => h.2 y h1 (fun z hz => h2 z hz S h)
theorem hg_own {own : Nat → List Nat} {p k : Nat} (h : hg_G own p k) : k = p ∨ (own k ≠ [] ∧ ∀ z ∈ own k, hg_G own p z) := by
  refine (h (fun y => hg_G own p y ∧ (y = p ∨ (own y ≠ [] ∧ ∀ z ∈ own y, hg_G own p z))) ⟨⟨hg_p, Or.inl rfl⟩, fun y h1 h2 => ⟨hg_add h1 (fun z hz => (h2 z hz).1), Or.inr ⟨h1, fun z hz => (h2 z hz).1⟩⟩⟩).2
theorem cg_owners_L {G O : List Nat} {gl ol : Int} {gi gs oi os : Nat → Int} (hG : ps_S G gl gi gs) (hO : ps_S O ol oi os) :
    ∀ (n i : Nat), i ≤ O.length → O.length + 1 ≤ i + n → (fX2_areOwnersGone_L1 gl gi ol os n (i : Int) = some (.inl ()) ∧ ∀ z ∈ O.drop i, z ∈ G) ∨ (fX2_areOwnersGone_L1 gl gi ol os n (i : Int) = some (.inr 0) ∧ ∃ z ∈ O.drop i, z ∉ G) := by
  have h100 := hO.le
  have he := hO.1
  intro n
  induction n with
  | zero => intro i a b; omega
  | succ n ih =>
    intro i hi hn
    rw [fX2_areOwnersGone_L1]
    unfold fX4_length
    rw [pr_b, tl_gt ⟨⟨by omega, by omega⟩, ⟨by omega, by omega⟩⟩]
    by_cases q : i < O.length
    · have hm := hO.2.2.1 _ (List.getElem_mem q)
      rw [if_pos (by omega), ps_get hO q, pr_b, ps_holds hG hm, pr_b, List.drop_eq_getElem_cons q, show (i : Int) + 1 = ((i + 1 : Nat) : Int) by omega]
      by_cases c : O[i] ∈ G
      · rw [if_pos c, tl_gt (by decide), if_neg (by decide)]
        rcases ih (i + 1) q (by omega) with ⟨z1, z2⟩ | ⟨z1, z, z2, z3⟩
        · exact Or.inl ⟨z1, fun z hz => (List.mem_cons.mp hz).elim (fun e => e ▸ c) (z2 z)⟩
        · exact Or.inr ⟨z1, z, List.mem_cons_of_mem _ z2, z3⟩
      · rw [if_neg c, tl_gt (by decide), if_pos rfl]
        exact Or.inr ⟨rfl, _, List.mem_cons_self, c⟩
    · rw [if_neg (by omega), List.drop_eq_nil_of_le (by omega)]
      exact Or.inl ⟨rfl, fun z hz => by cases hz⟩
theorem cg_owners {G O : List Nat} {gl ol : Int} {gi gs oi os : Nat → Int} (hG : ps_S G gl gi gs) (hO : ps_S O ol oi os) : ∃ b : Int, fX2_areOwnersGone gl gi ol os = some b ∧ (b = 0 ∨ b = 1) ∧ (b = 1 ↔ ∀ z ∈ O, z ∈ G) := by
  have e := cg_owners_L hG hO tl_N 0 (Nat.zero_le _) (by have := hO.le; unfold tl_N; omega)
  rw [show ((0 : Nat) : Int) = (0 : Int) from rfl, List.drop_zero] at e
  unfold fX2_areOwnersGone
  rcases e with ⟨z1, z2⟩ | ⟨z1, z, z2, z3⟩
  · rw [z1, pr_b]
    exact ⟨1, rfl, Or.inr rfl, fun _ => z2, fun _ => rfl⟩
  · rw [z1, pr_b]
    exact ⟨0, rfl, Or.inl rfl, fun y => by omega, fun y => absurd (y z z2) z3⟩
theorem cg_add_L {ob pa : Int} {nl : Nat} {ru : Nat → Int} {d : Nat → Nat → List Nat} {dl : Nat → Int} {dw : Nat → Int64} (hd : pr_R d dl dw) (hn : nl ≤ 10) (hr : ∀ l, l < nl → tl_R (ru l)) {P : List Nat} {pl : Int} {pi ps : Nat → Int} (hP : ps_S P pl pi ps) {p : Nat} (hown : ∀ y ∈ P, pw_own nl ru d y ≠ []) :
    ∀ (n i : Nat) (G O : List Nat) (gl ol : Int) (gi gs oi os : Nat → Int), i ≤ P.length → P.length + 1 ≤ i + n → ps_S G gl gi gs → ps_S O ol oi os → (∀ k ∈ G, hg_G (pw_own nl ru d) p k) →
      ∃ (G' O' : List Nat) (gl' ol' : Int) (gi' gs' oi' os' : Nat → Int), fX2_addThoseWithoutOwner_L1 pl ps (nl : Int) ru ob pa dl dw n (i : Int) gl gi gs ol oi os = some (gl', gi', gs', ol', oi', os') ∧ ps_S G' gl' gi' gs' ∧ ps_S O' ol' oi' os' ∧ (∀ k ∈ G', hg_G (pw_own nl ru d) p k) ∧ (∃ t, G' = G ++ t) ∧ ∀ y ∈ P.drop i, (∀ z ∈ pw_own nl ru d y, z ∈ G) → y ∈ G' := by
  have h100 := hP.le
  have he := hP.1
  intro n
  induction n with
  | zero => intro i G O gl ol gi gs oi os a b; omega
  | succ n ih =>
    intro i G O gl ol gi gs oi os hi hn2 hG hO hin
    rw [fX2_addThoseWithoutOwner_L1]
    unfold fX4_length fX1_had
    rw [pr_b, tl_gt ⟨⟨by omega, by omega⟩, ⟨by omega, by omega⟩⟩]
    by_cases q : i < P.length
    · have hm := hP.2.2.1 _ (List.getElem_mem q)
      obtain ⟨oi1, a1, a2⟩ := ps_clear hO
      obtain ⟨oi2, os2, ol2, b1, b2⟩ := pw_addOwning (s := P[i]) hd hn hm hr (a2 os)
      obtain ⟨b, c1, c2, c3⟩ := cg_owners hG b2
      have hmem : ∀ z, z ∈ pr_addAll [] (pw_own nl ru d P[i]) ↔ z ∈ pw_own nl ru d P[i] := fun z => by
        rw [pr_mem_addAll]
        simp
      rw [if_pos (by omega), a1, pr_b, pr_b, ps_get hP q, pr_b, b1, pr_b, c1, pr_b, tl_gt (show tl_R b from ⟨by omega, by omega⟩), show (i : Int) + 1 = ((i + 1 : Nat) : Int) by omega]
      by_cases v : ∀ z ∈ pw_own nl ru d P[i], z ∈ G
      · have hb1 := c3.mpr (fun z hz => v z ((hmem z).mp hz))
        obtain ⟨gi3, gs3, gl3, e1, e2⟩ := ps_add hG hm
        rw [if_neg (by omega), pr_b, e1, pr_b]
        have hin2 : ∀ k ∈ (if P[i] ∈ G then G else G ++ [P[i]]), hg_G (pw_own nl ru d) p k := by
          intro k hk
          by_cases y : P[i] ∈ G
          · rw [if_pos y] at hk
            exact hin k hk
          · rw [if_neg y] at hk
            rcases List.mem_append.mp hk with z | z
            · exact hin k z
            · rw [List.mem_singleton.mp z]
              exact hg_add (hown _ (List.getElem_mem q)) (fun z hz => hin z (v z hz))
        obtain ⟨G', O', gl', ol', gi', gs', oi', os', f1, f2, f3, f4, ⟨t, f5⟩, f6⟩ := ih (i + 1) _ _ gl3 ol2 gi3 gs3 oi2 os2 q (by omega) e2 b2 hin2
        have hsub : ∃ t2, G' = G ++ t2 := by
          by_cases y : P[i] ∈ G
          · rw [if_pos y] at f5
            exact ⟨t, f5⟩
          · rw [if_neg y] at f5
            exact ⟨[P[i]] ++ t, by rw [f5, List.append_assoc]⟩
        refine ⟨G', O', gl', ol', gi', gs', oi', os', f1, f2, f3, f4, hsub, fun y hy hall => ?_⟩
        rw [List.drop_eq_getElem_cons q] at hy
        rcases List.mem_cons.mp hy with z | z
        · rw [z, f5]
          refine List.mem_append_left _ ?_
          by_cases y2 : P[i] ∈ G
          · rw [if_pos y2]
            exact y2
          · rw [if_neg y2]
            exact List.mem_append_right _ (List.mem_singleton.mpr rfl)
        · refine f6 y z (fun x hx => ?_)
          have := hall x hx
          by_cases y2 : P[i] ∈ G
          · rw [if_pos y2]
            exact this
          · rw [if_neg y2]
            exact List.mem_append_left _ this
      · have hb0 : b = 0 := c2.elim id (fun z => absurd (fun x hx => (c3.mp z) x ((hmem x).mpr hx)) v)
        rw [if_pos hb0]
        obtain ⟨G', O', gl', ol', gi', gs', oi', os', f1, f2, f3, f4, f5, f6⟩ := ih (i + 1) G _ gl ol2 gi gs oi2 os2 q (by omega) hG b2 hin
        refine ⟨G', O', gl', ol', gi', gs', oi', os', f1, f2, f3, f4, f5, fun y hy hall => ?_⟩
        rw [List.drop_eq_getElem_cons q] at hy
        rcases List.mem_cons.mp hy with z | z
        · rw [z] at hall
          exact absurd hall v
        · exact f6 y z hall
    · rw [if_neg (by omega)]
      refine ⟨G, O, gl, ol, gi, gs, oi, os, rfl, hG, hO, hin, ⟨[], (List.append_nil _).symm⟩, fun y hy => ?_⟩
      rw [List.drop_eq_nil_of_le (by omega)] at hy
      cases hy
theorem cg_gather_L {ob pa : Int} {nl : Nat} {fo ru : Nat → Int} {g0 : Int} {U : Nat → Bool} {nu : Nat → Int} {w d : Nat → Nat → List Nat} (h : hs_I nl fo ru g0 U nu w d) {dl : Nat → Int} {dw : Nat → Int64} {hl : Nat → Int} {hw : Nat → Int64} (hd : pr_R d dl dw) (hh : pr_R w hl hw) (hn : nl ≤ 10) (hr : ∀ l, l < nl → tl_R (ru l)) {p : Nat} :
    ∀ (n i : Nat) (G O P : List Nat) (gl ol pl : Int) (gi gs oi os pi ps : Nat → Int), i ≤ G.length → 101 ≤ i + n → ps_S G gl gi gs → ps_S O ol oi os → ps_S P pl pi ps → p ∈ G → (∀ k ∈ G, hg_G (pw_own nl ru d) p k) → (∀ y, pw_own nl ru d y ≠ [] → (∀ z ∈ pw_own nl ru d y, z ∈ G.take i) → y ∈ G) →
      ∃ (G' O' P' : List Nat) (gl' ol' pl' : Int) (gi' gs' oi' os' pi' ps' : Nat → Int), fX2_gather_L1 (nl : Int) ru ob pa dl dw hl hw n (i : Int) gl gi gs ol oi os pl pi ps = some (gl', gi', gs', ol', oi', os', pl', pi', ps') ∧ ps_S G' gl' gi' gs' ∧ ps_S O' ol' oi' os' ∧ ps_S P' pl' pi' ps' ∧ ∀ k, k ∈ G' ↔ hg_G (pw_own nl ru d) p k := by
  intro n
  induction n with
  | zero =>
    intro i G O P gl ol pl gi gs oi os pi ps hi hn2 hG
    have := hG.le
    omega
  | succ n ih =>
    intro i G O P gl ol pl gi gs oi os pi ps hi hn2 hG hO hP hp hin hcl
    have h100 := hG.le
    have he := hG.1
    rw [fX2_gather_L1]
    unfold fX4_length fX1_has
    rw [pr_b, tl_gt ⟨⟨by omega, by omega⟩, ⟨by omega, by omega⟩⟩]
    by_cases q : i < G.length
    · have hm := hG.2.2.1 _ (List.getElem_mem q)
      obtain ⟨pi1, a1, a2⟩ := ps_clear hP
      obtain ⟨pi2, ps2, pl2, b1, b2⟩ := pw_addOwning (s := G[i]) hh hn hm hr (a2 ps)
      have hmem : ∀ z, z ∈ pr_addAll [] (pw_own nl ru w G[i]) ↔ z ∈ pw_own nl ru w G[i] := fun z => by
        rw [pr_mem_addAll]
        simp
      obtain ⟨G', O', gl', ol', gi', gs', oi', os', f1, f2, f3, f4, ⟨t, f5⟩, f6⟩ := cg_add_L (ob := ob) (pa := pa) (p := p) hd hn hr b2 (fun y hy z => by
        have := (hs_own_w h ((hmem y).mp hy)).2.2.2.2
        rw [z] at this
        cases this) tl_N 0 G O gl ol gi gs oi os (Nat.zero_le _) (by have := b2.le; unfold tl_N; omega) hG hO hin
      rw [show ((0 : Nat) : Int) = (0 : Int) from rfl] at f1
      rw [List.drop_zero] at f6
      have eA : fX2_addThoseWithoutOwner gl gi gs ol oi os pl2 ps2 (nl : Int) ru ob pa dl dw = some (gi', gs', oi', os', gl', ol') := by
        unfold fX2_addThoseWithoutOwner
        rw [f1, pr_b]
      rw [if_pos (by omega), tl_gt ⟨⟨by omega, by omega⟩, by decide⟩, if_pos (by omega), a1, pr_b, pr_b, ps_get hG q, pr_b, b1, pr_b, eA, pr_b, show (i : Int) + 1 = ((i + 1 : Nat) : Int) by omega]
      refine ih (i + 1) G' O' _ gl' ol' pl2 gi' gs' oi' os' pi2 ps2 (by rw [f5, List.length_append]; omega) (by omega) f2 f3 b2 (by rw [f5]; exact List.mem_append_left _ hp) f4 (fun y hy hall => ?_)
      have htk : G'.take (i + 1) = G.take i ++ [G[i]] := by
        rw [f5, List.take_append_of_le_length (by omega)]
        exact List.take_succ_eq_append_getElem q
      rw [htk] at hall
      by_cases v : G[i] ∈ pw_own nl ru d y
      · refine f6 y ((hmem y).mpr (hs_own_d h v).2.2.2.2) (fun z hz => ?_)
        rcases List.mem_append.mp (hall z hz) with z1 | z1
        · exact List.mem_of_mem_take z1
        · rw [List.mem_singleton.mp z1]
          exact List.getElem_mem q
      · rw [f5]
        refine List.mem_append_left _ (hcl y hy (fun z hz => ?_))
        rcases List.mem_append.mp (hall z hz) with z1 | z1
        · exact z1
        · rw [List.mem_singleton.mp z1] at hz
          exact absurd hz v
    · rw [if_neg (by omega)]
      refine ⟨G, O, P, gl, ol, pl, gi, gs, oi, os, pi, ps, rfl, hG, hO, hP, fun k => ⟨hin k, fun hk => hk (fun k => k ∈ G) ⟨hp, fun y h1 h2 => hcl y h1 (fun z hz => ?_)⟩⟩⟩
      rw [List.take_of_length_le (by omega)]
      exact h2 z hz
theorem cg_gather {ob pa : Int} {nl : Nat} {fo ru : Nat → Int} {g0 : Int} {U : Nat → Bool} {nu : Nat → Int} {w d : Nat → Nat → List Nat} (h : hs_I nl fo ru g0 U nu w d) {dl : Nat → Int} {dw : Nat → Int64} {hl : Nat → Int} {hw : Nat → Int64} (hd : pr_R d dl dw) (hh : pr_R w hl hw) (hn : nl ≤ 10) (hr : ∀ l, l < nl → tl_R (ru l)) {p : Nat} (hp : p < 100) {G O P : List Nat} {gl ol pl : Int} {gi gs oi os pi ps : Nat → Int} (hG : ps_S G gl gi gs) (hO : ps_S O ol oi os) (hP : ps_S P pl pi ps) :
    ∃ (G' O' P' : List Nat) (gl' ol' pl' : Int) (gi' gs' oi' os' pi' ps' : Nat → Int), fX2_gather gl gi gs ol oi os pl pi ps (nl : Int) ru ob pa dl dw hl hw (p : Int) = some (gi', gs', oi', os', pi', ps', gl', ol', pl') ∧ ps_S G' gl' gi' gs' ∧ ps_S O' ol' oi' os' ∧ ps_S P' pl' pi' ps' ∧ ∀ k, k ∈ G' ↔ hg_G (pw_own nl ru d) p k := by
  obtain ⟨gi1, a1, a2⟩ := ps_clear hG
  obtain ⟨gi2, gs2, gl2, b1, b2⟩ := ps_add (a2 gs) hp
  rw [if_neg (by simp)] at b2
  obtain ⟨G', O', P', gl', ol', pl', gi', gs', oi', os', pi', ps', c1, c2, c3, c4, c5⟩ := cg_gather_L (ob := ob) (pa := pa) (p := p) h hd hh hn hr tl_N 0 ([] ++ [p]) O P gl2 ol pl gi2 gs2 oi os pi ps (Nat.zero_le _) (by unfold tl_N; omega) b2 hO hP (by simp) (fun k hk => by
    rw [List.nil_append, List.mem_singleton] at hk
    rw [hk]
    exact hg_p) (fun y h1 h2 => by
      obtain ⟨z, hz⟩ := List.exists_mem_of_ne_nil _ h1
      have := h2 z hz
      rw [List.take_zero] at this
      cases this)
  rw [show ((0 : Nat) : Int) = (0 : Int) from rfl] at c1
  unfold fX2_gather
  rw [a1, pr_b]
  dsimp only
  rw [b1, pr_b, c1, pr_b]
  exact ⟨G', O', P', gl', ol', pl', gi', gs', oi', os', pi', ps', rfl, c2, c3, c4, c5⟩
