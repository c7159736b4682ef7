/-! alike: the search with its memory; alike -/
def ia_Z (known : Nat → Int) : Nat := hs_sum (fun c => if known c = 0 then 1 else 0) 10000
theorem ia_Z_le (known : Nat → Int) : ia_Z known ≤ 10000 := by
  have : ∀ n, hs_sum (fun c => if known c = 0 then 1 else 0) n ≤ n := by
    intro n
    induction n with
    | zero => exact Nat.le_refl _
    | succ n ih =>
      rw [hs_sum]
      by_cases q : known n = 0
      · simp only [if_pos q]
        omega
      · simp only [if_neg q]
        omega
  exact this 10000
theorem ia_Z_up {known : Nat → Int} {c : Nat} {v : Int} (hc : c < 10000) (h0 : known c = 0) (hv : v ≠ 0) : ia_Z (va_up known c v) + 1 = ia_Z known := by
  have h1 := hs_sum_one (f := fun k => if va_up known c v k = 0 then 1 else 0) (g := fun k => if known k = 0 then 1 else 0) (i := c) 10000 hc (fun k _ hk => by
    show (if va_up known c v k = 0 then 1 else 0) = _
    rw [va_up_ne _ _ hk])
  simp only [va_up_self, if_pos h0, if_neg hv] at h1
  unfold ia_Z
  omega
def ia_M (nl : Nat) (ru ki : Nat → Int) (w : Nat → Nat → List Nat) (known : Nat → Int) : Prop := ∀ a b, a < 100 → b < 100 → (known (a * 100 + b) = 0 ∨ (known (a * 100 + b) = 1 ∧ ha_A nl ru ki w a b) ∨ (known (a * 100 + b) = 2 ∧ ¬ ha_A nl ru ki w a b))
theorem ia_M_R {nl : Nat} {ru ki : Nat → Int} {w : Nat → Nat → List Nat} {known : Nat → Int} (h : ia_M nl ru ki w known) : ∀ c, c < 10000 → tl_R (known c) := by
  intro c hc
  have e : c = (c / 100) * 100 + c % 100 := by omega
  rw [e]
  rcases h (c / 100) (c % 100) (by omega) (by omega) with z | z | z
  · rw [z]; decide
  · rw [z.1]; decide
  · rw [z.1]; decide
theorem ia_code {a b c e : Nat} (hb : b < 100) (he : e < 100) (h : a * 100 + b = c * 100 + e) : a = c ∧ b = e := by omega
theorem ia_M_up {nl : Nat} {ru ki : Nat → Int} {w : Nat → Nat → List Nat} {known : Nat → Int} (h : ia_M nl ru ki w known) {a b : Nat} (hb : b < 100) {v : Int} (hv : (v = 1 ∧ ha_A nl ru ki w a b) ∨ (v = 2 ∧ ¬ ha_A nl ru ki w a b)) : ia_M nl ru ki w (va_up known (a * 100 + b) v) := by
  intro c e hc he
  by_cases q : c * 100 + e = a * 100 + b
  · obtain ⟨rfl, rfl⟩ := ia_code he hb q
    rw [va_up_self]
    exact Or.inr hv
  · rw [va_up_ne _ _ q]
    exact h c e hc he
def ia_K (own : Nat → List Nat) (U : Nat → Bool) (gl : Nat × Nat) (K : List (Nat × Nat)) (known wait : Nat → Int) : Prop := (∀ (i : Nat) (h : i < K.length), wait i = ((K[i].1 * 100 + K[i].2 : Nat) : Int)) ∧ (∀ e ∈ K, e.1 < 100 ∧ e.2 < 100 ∧ U e.1 = true ∧ U e.2 = true ∧ known (e.1 * 100 + e.2) = 0) ∧ K.Pairwise (fun e f => ∃ n, hs_pa own (n + 1) e.1 f.1) ∧ (∀ h : 0 < K.length, K[0] = gl) ∧ (K = [] → known (gl.1 * 100 + gl.2) ≠ 0)
theorem ia_K_len {own : Nat → List Nat} (ac : ∀ n x, ¬ hs_pa own (n + 1) x x) {U : Nat → Bool} {gl : Nat × Nat} {K : List (Nat × Nat)} {known wait : Nat → Int} (h : ia_K own U gl K known wait) : K.length ≤ 100 := by
  have hn : (K.map (fun e => e.1)).Nodup := by
    refine List.nodup_iff_pairwise_ne.mpr ?_
    rw [List.pairwise_map]
    refine h.2.2.1.imp (fun {e f} z q => ?_)
    obtain ⟨n, hn⟩ := z
    rw [q] at hn
    exact ac n _ hn
  have := ps_len 100 (K.map (fun e => e.1)) hn (fun x hx => by
    obtain ⟨e, e1, e2⟩ := List.mem_map.mp hx
    rw [← e2]
    exact (h.2.1 e e1).1)
  rw [List.length_map] at this
  exact this
theorem ia_pop {own : Nat → List Nat} (ac : ∀ n x, ¬ hs_pa own (n + 1) x x) {U : Nat → Bool} {gl : Nat × Nat} {K : List (Nat × Nat)} {a b : Nat} {known wait : Nat → Int} (h : ia_K own U gl (K ++ [(a, b)]) known wait) {v : Int} (hv : v ≠ 0) : ia_K own U gl K (va_up known (a * 100 + b) v) wait := by
  obtain ⟨h1, h2, h3, h4, _⟩ := h
  rw [List.pairwise_append] at h3
  have hab := h2 (a, b) (List.mem_append_right _ (List.mem_singleton.mpr rfl))
  refine ⟨fun i hi => ?_, fun e he => ?_, h3.1, fun hl => ?_, fun e => ?_⟩
  · have := h1 i (by rw [List.length_append]; omega)
    rw [List.getElem_append_left hi] at this
    exact this
  · obtain ⟨a1, a2, a3, a4, a5⟩ := h2 e (List.mem_append_left _ he)
    refine ⟨a1, a2, a3, a4, ?_⟩
    have hne : e.1 * 100 + e.2 ≠ a * 100 + b := fun z => by
      obtain ⟨n, hn⟩ := h3.2.2 e he (a, b) (List.mem_singleton.mpr rfl)
      rw [(ia_code a2 hab.2.1 z).1] at hn
      exact ac n _ hn
    rw [va_up_ne _ _ hne]
    exact a5
  · have := h4 (by rw [List.length_append]; omega)
    rw [List.getElem_append_left hl] at this
    exact this
  · subst e
    have := h4 (by simp)
    have e2 : (a, b) = gl := this
    rw [← e2, va_up_self]
    exact hv
theorem ia_push {own : Nat → List Nat} {U : Nat → Bool} {gl : Nat × Nat} {K : List (Nat × Nat)} {a b c e : Nat} {known wait : Nat → Int} (h : ia_K own U gl (K ++ [(a, b)]) known wait) (hc : c < 100) (he : e < 100) (hUc : U c = true) (hUe : U e = true) (h0 : known (c * 100 + e) = 0) (ho : c ∈ own a) : ia_K own U gl (K ++ [(a, b)] ++ [(c, e)]) known (va_up wait (K.length + 1) ((c * 100 + e : Nat) : Int)) := by
  obtain ⟨h1, h2, h3, h4, _⟩ := h
  refine ⟨fun i hi => ?_, fun f hf => ?_, ?_, fun hl => ?_, fun z => by simp at z⟩
  · rw [List.length_append, List.length_append, List.length_singleton, List.length_singleton] at hi
    by_cases q : i = K.length + 1
    · subst q
      rw [va_up_self]
      simp
    · have hi2 : i < (K ++ [(a, b)]).length := by
        rw [List.length_append, List.length_singleton]
        omega
      rw [va_up_ne _ _ q, List.getElem_append_left hi2]
      exact h1 i hi2
  · rcases List.mem_append.mp hf with z | z
    · exact h2 f z
    · rw [List.mem_singleton.mp z]
      exact ⟨hc, he, hUc, hUe, h0⟩
  · rw [List.pairwise_append]
    refine ⟨h3, by simp, fun f hf x hx => ?_⟩
    rw [List.mem_singleton.mp hx]
    rcases List.mem_append.mp hf with z | z
    · rw [List.pairwise_append] at h3
      obtain ⟨n, hn⟩ := h3.2.2 f z (a, b) (List.mem_singleton.mpr rfl)
      exact ⟨n + 1, hs_pa_app (n + 1) 1 _ a c hn ⟨c, ho, rfl⟩⟩
    · rw [List.mem_singleton.mp z]
      exact ⟨0, c, ho, rfl⟩
  · rw [List.getElem_append_left (by simp)]
    exact h4 (by simp)
theorem ia_last : ∀ (K : List (Nat × Nat)), K ≠ [] → ∃ K0 x, K = K0 ++ [x]
  | [], h => absurd rfl h
  | [a], _ => ⟨[], a, rfl⟩
  | a :: b :: K, _ => by
    obtain ⟨K0, x, e⟩ := ia_last (b :: K) (by simp)
    exact ⟨a :: K0, x, by rw [e]; rfl⟩
theorem ia_L2 {o m pm km lv ra : Int} {z5 : Int × Int} {nl : Nat} {fo fr ru to fo2 fr2 ru2 to2 : Nat → Int} (hTo : ht_R nl fo fr ru to fo2 fr2 ru2 to2) {g : Int} {U : Nat → Bool} {nu ki : Nat → Int} {w d : Nat → Nat → List Nat} (h : hs_I nl fo ru g U nu w d) {has hasMany kind : Nat → Int} (hh : qu_R U w hasMany has) (hk : ∀ k, k < 100 → tl_R (kind k) ∧ (U k = true → kind k = ki k)) {gl : Nat × Nat} :
    ∀ (n : Nat) (K : List (Nat × Nat)) (known wait : Nat → Int), 2 * ia_Z known + 102 ≤ n + K.length → ia_M nl ru ki w known → ia_K (pw_own nl ru w) U gl K known wait →
      ∃ (known' wait' : Nat → Int), fX10_alike_L2 (nl : Int) o m pm km lv ra has hasMany kind ru2 z5 n (K.length : Int) known wait = some (known', wait') ∧ ia_M nl ru ki w known' ∧ known' (gl.1 * 100 + gl.2) ≠ 0 := by
  intro n
  induction n with
  | zero =>
    intro K known wait hn hM hK
    have := ia_K_len h.ac hK
    omega
  | succ n ih =>
    intro K known wait hn hM hK
    have hKl := ia_K_len h.ac hK
    have hkR := ia_M_R hM
    rw [fX10_alike_L2, tl_gt ⟨by omega, by omega⟩]
    by_cases q : K = []
    · rw [if_neg (by rw [q]; decide)]
      exact ⟨known, wait, rfl, hM, hK.2.2.2.2 q⟩
    · obtain ⟨K0, ⟨a, b⟩, rfl⟩ : ∃ K0 x, K = K0 ++ [x] := ia_last K q
      have hlen : (K0 ++ [(a, b)]).length = K0.length + 1 := by rw [List.length_append, List.length_singleton]
      rw [hlen] at hn hKl ⊢
      obtain ⟨ha, hb, hUa, hUb, h0⟩ := hK.2.1 (a, b) (List.mem_append_right _ (List.mem_singleton.mpr rfl))
      have h0' : known (a * 100 + b) = 0 := h0
      have ha' : a < 100 := ha
      have hb' : b < 100 := hb
      have ew : wait K0.length = ((a * 100 + b : Nat) : Int) := by
        have := hK.1 K0.length (by rw [hlen]; omega)
        simpa using this
      have hw1 : (((K0.length + 1 : Nat) : Int) - 1).toNat = K0.length := by omega
      have ediv : (((a * 100 + b : Nat) : Int)) / 100 = (a : Int) := by omega
      have emod : (((a * 100 + b : Nat) : Int)) % 100 = (b : Int) := by omega
      have iC : tl_in ((a * 100 + b : Nat) : Int) 10000 := ⟨by omega, by omega⟩
      have popI : ∀ v : Int, ((v = 1 ∧ ha_A nl ru ki w a b) ∨ (v = 2 ∧ ¬ ha_A nl ru ki w a b)) → ∃ (known' wait' : Nat → Int), fX10_alike_L2 (nl : Int) o m pm km lv ra has hasMany kind ru2 z5 n (((K0.length + 1 : Nat) : Int) + (-1)) (va_up known (a * 100 + b) v) wait = some (known', wait') ∧ ia_M nl ru ki w known' ∧ known' (gl.1 * 100 + gl.2) ≠ 0 := by
        intro v hv
        have hv0 : v ≠ 0 := hv.elim (fun z => by omega) (fun z => by omega)
        have hz := ia_Z_up (known := known) (c := a * 100 + b) (v := v) (by omega) h0 hv0
        rw [show ((K0.length + 1 : Nat) : Int) + (-1) = (K0.length : Int) by omega]
        exact ih K0 _ wait (by omega) (ia_M_up hM hb' hv) (ia_pop h.ac hK hv0)
      obtain ⟨r, r1, r2, r3⟩ := ia_once_is (t := z5.2) (o := o) (m := m) (pm := pm) (km := km) (lv := lv) (ra := ra) (ki := ki) hTo hh hk ha' hb' hUa hUb
      rw [if_pos (by omega), tl_gt ⟨by omega, by omega⟩, hw1, ew, tl_gt ⟨by omega, by omega, by decide, by decide⟩, tl_gt ⟨by omega, by omega, by decide, by decide⟩, ediv, emod, r1, pr_b, tl_gt (show tl_R r from ⟨by omega, by omega⟩), Int.toNat_natCast]
      by_cases c : r = 0
      · have hnA : ¬ ha_A nl ru ki w a b := fun z => by
          have := r3.mpr ⟨(z 1).1, fun l h1 h2 => ((z 1).2 l h1 h2).1⟩
          omega
        rw [if_pos c, tl_gt ⟨iC, by decide⟩, pr_b]
        dsimp only
        rw [tl_gt iC, tl_gt (by rw [va_up_self]; decide), if_pos (va_up_self _ _ _)]
        exact popI 2 (Or.inr ⟨rfl, hnA⟩)
      · have hon := r3.mp (r2.elim (fun z => absurd z c) id)
        have op := ia_open (t := z5.2) (o := o) (m := m) (pm := pm) (km := km) (lv := lv) (ra := ra) hTo hh hkR ha' hb' hUa hUb hon.2
        rw [if_neg c]
        rcases op with ⟨o1, o2⟩ | ⟨l2, j, j1, j2, o1, o2, o3, o4⟩
        · have hA : ha_A nl ru ki w a b := by
            intro x
            cases x with
            | zero => exact trivial
            | succ x =>
              refine ⟨hon.1, fun l h1 h2 => ⟨hon.2 l h1 h2, fun i i1 i2 => ?_⟩⟩
              have e1 := (h.row l a _ (List.getElem_mem i1)).2.2.1
              have e2 := (h.row l b _ (List.getElem_mem i2)).2.2.1
              have e3 := o2 l h1 h2 i i1 i2
              rcases hM _ _ e1 e2 with z | z | z
              · omega
              · exact z.2 x
              · omega
          rw [o1, pr_b, pr_b]
          dsimp only
          rw [tl_gt iC, tl_gt (by rw [h0']; decide), if_neg (by rw [h0']; decide), tl_gt (by decide), if_pos (by decide), tl_gt ⟨iC, by decide⟩]
          exact popI 1 (Or.inl ⟨rfl, hA⟩)
        · obtain ⟨_, _, e1, _, e3⟩ := h.row l2 a _ (List.getElem_mem j1)
          obtain ⟨_, _, e2, _, e4⟩ := h.row l2 b _ (List.getElem_mem j2)
          have hown : (w l2 a)[j] ∈ pw_own nl ru w a := pw_mem_own.mpr ⟨l2, o1, o2, List.getElem_mem j1⟩
          rw [o3, pr_b, pr_b]
          dsimp only
          rw [tl_gt iC, tl_gt (by rw [h0']; decide), if_neg (by rw [h0']; decide), tl_gt ⟨by omega, by omega⟩, if_neg (by omega), tl_gt ⟨by omega, by omega⟩, Int.toNat_natCast, tl_gt ⟨hkR _ (by omega), by decide⟩]
          rcases hM _ _ e1 e2 with z | z | z
          · rw [if_neg (by omega), tl_gt ⟨by omega, by omega⟩, Int.toNat_natCast, show ((K0.length + 1 : Nat) : Int) + 1 = ((K0 ++ [(a, b)] ++ [((w l2 a)[j], (w l2 b)[j])]).length : Int) by rw [List.length_append, hlen, List.length_singleton]; omega]
            exact ih _ known _ (by rw [List.length_append, hlen, List.length_singleton]; omega) hM (ia_push hK e1 e2 e3 e4 z hown)
          · exact absurd z.1 o4
          · rw [if_pos z.1, tl_gt ⟨iC, by decide⟩]
            exact popI 2 (Or.inr ⟨rfl, fun y => z.2 (fun x => ((y (x + 1)).2 l2 o1 o2).2 j j1 j2)⟩)
theorem ca_alike {lv t ob3 g3 pm km lv2 ra : Int} {nl : Nat} {fo fr ru to fo2 fr2 ru2 to2 : Nat → Int} (hTo : ht_R nl fo fr ru to fo2 fr2 ru2 to2) {g : Int} {U : Nat → Bool} {nu ki : Nat → Int} {w d : Nat → Nat → List Nat} (h : hs_I nl fo ru g U nu w d) (hg : g ≤ 1000000) {ob pa : Int} {dl : Nat → Int} {dw : Nat → Int64} {hl : Nat → Int} {hw : Nat → Int64} {kk nn : Nat → Int} (hR : hc_R U nu ki w d ob pa dl dw hl hw kk nn) {ob2 : Int} {had hadMany has hasMany kind number used : Nat → Int} (hQ : hq_R U nu ki w d ob2 had hadMany has hasMany kind number used) {len : Int} {fs ld ss known wait : Nat → Int} {p1 p2 : Int} (h1 : tl_R p1) (h2 : tl_R p2) :
    ∃ (c : Nat ⊕ Int) (b t' len' : Int) (fs' ld' ss' known' wait' : Nat → Int), fX9_alike g3 lv len fs ld ss ob pa hl hw kk nn (nl : Int) ru p1 p2 = some (c, fs', ld', ss', len') ∧ fX10_alike t (nl : Int) ob3 g3 pm km lv2 ra has hasMany kind known number ru2 used wait p1 p2 = some (b, known', wait', t') ∧ lm_A lf_way c b t' ∧ (b = 0 ∨ b = 1) := by
  obtain ⟨r1, r2, r3, r4, r5, r6⟩ := id hR
  obtain ⟨q1, q2, q3, q4, q5, q6⟩ := id hQ
  rcases hs_find U nu p1 with ⟨x, hx, hUx, ex⟩ | hno
  · rcases hs_find U nu p2 with ⟨y, hy, hUy, ey⟩ | hno
    · obtain ⟨r, len', fs', ld', ss', a1, a2, a3⟩ := hc_alike (ob := ob) (pa := pa) hTo h r4 r5 hx hy hUx hUy len fs ld ss
      obtain ⟨kn1, b1, b2⟩ := ia_L1 tl_N 0 known (by omega) (by unfold tl_N; omega)
      rw [show ((0 : Nat) : Int) = (0 : Int) from rfl] at b1
      have hM : ia_M nl ru ki w kn1 := fun a b ha hb => Or.inl (by rw [b2 _ (by omega), if_pos (Nat.zero_le _)])
      have hK : ia_K (pw_own nl ru w) U (x, y) [(x, y)] kn1 (va_up wait ((0 : Int).toNat) ((x : Int) * 100 + (y : Int))) := by
        refine ⟨fun i hi => ?_, fun e he => ?_, by simp, fun _ => rfl, fun z => by cases z⟩
        · have h0 : i = 0 := by simpa using hi
          subst h0
          rw [show ((0 : Int).toNat) = 0 from rfl, va_up_self]
          show (x : Int) * 100 + (y : Int) = ((x * 100 + y : Nat) : Int)
          omega
        · rw [List.mem_singleton.mp he]
          exact ⟨hx, hy, hUx, hUy, by rw [b2 _ (by omega), if_pos (Nat.zero_le _)]⟩
      obtain ⟨kn2, wa2, c1, c2, c3⟩ := ia_L2 (o := ob3) (m := g3) (pm := pm) (km := km) (lv := lv2) (ra := ra) (z5 := ((0 : Int), (0 : Int))) hTo h q3 q4 tl_N [(x, y)] kn1 _ (by have := ia_Z_le kn1; unfold tl_N; simp; omega) hM hK
      have c1' : fX10_alike_L2 (nl : Int) ob3 g3 pm km lv2 ra has hasMany kind ru2 ((0 : Int), (0 : Int)) tl_N 1 kn1 (va_up wait ((0 : Int).toNat) ((x : Int) * 100 + (y : Int))) = some (kn2, wa2) := c1
      have c3' : kn2 (x * 100 + y) ≠ 0 := c3
      have hkR := ia_M_R c2 (x * 100 + y) (by omega)
      have er : ∀ v : Int, (v = (if kn2 (x * 100 + y) = 1 then 1 else 0)) → fX10_alike t (nl : Int) ob3 g3 pm km lv2 ra has hasMany kind known number ru2 used wait p1 p2 = some (v, kn2, wa2, 0) := by
        intro v hv
        unfold fX10_alike
        rw [qn_place h hQ h1 hx hUx ex, pr_b, tl_gt ⟨by omega, by omega⟩, if_neg (by omega), qn_place h hQ h2 hy hUy ey, pr_b, tl_gt ⟨by omega, by omega⟩, if_neg (by omega), pr_b, qn_fails0, pr_b]
        dsimp only
        rw [tl_gt (show tl_R (0 : Int) by decide), if_pos rfl, b1, pr_b, qn_place h hQ h1 hx hUx ex, pr_b, qn_place h hQ h2 hy hUy ey, pr_b, tl_gt (by decide), c1', pr_b]
        dsimp only
        rw [tl_gt ⟨by omega, by omega⟩, show ((x : Int) * 100 + (y : Int)).toNat = x * 100 + y by omega, tl_gt ⟨hkR, by decide⟩, hv]
        by_cases z : kn2 (x * 100 + y) = 1
        · rw [if_pos z, if_pos z]
        · rw [if_neg z, if_neg z]
      have eR : r = (if kn2 (x * 100 + y) = 1 then 1 else 0) := by
        rcases c2 x y hx hy with z | z | z
        · exact absurd z c3'
        · rw [if_pos z.1]
          exact a3.mpr z.2
        · rw [if_neg (by omega)]
          exact a2.elim id (fun v => absurd (a3.mp v) z.2)
      refine ⟨.inr r, r, 0, len', fs', ld', ss', kn2, wa2, ?_, er r eR, lm_A.ret rfl rfl, a2⟩
      unfold fX9_alike
      rw [cn_slot h hg hR h1 hx hUx ex, pr_b]
      dsimp only
      rw [cn_slot h hg hR h2 hy hUy ey, pr_b]
      dsimp only
      rw [a1, pr_b]
      dsimp only
      rw [tl_gt a2]
    · refine ⟨.inl 1, 0, 1, len, fs, ld, ss, known, wait, ?_, ?_, lm_A.thr rfl (by decide), Or.inl rfl⟩
      · unfold fX9_alike
        rw [cn_slot h hg hR h1 hx hUx ex, pr_b]
        dsimp only
        rw [cn_noslot h hg hR h2 hno, pr_b]
      · unfold fX10_alike
        rw [qn_place h hQ h1 hx hUx ex, pr_b, tl_gt ⟨by omega, by omega⟩, if_neg (by omega), qn_noplace hQ h2 hno, pr_b, tl_gt (by decide), if_pos (by decide), pr_b, qn_fails1 (by decide) (by decide), pr_b]
        dsimp only
        rw [tl_gt (show tl_R (1 : Int) by decide), if_neg (show ¬ (1 : Int) = 0 by decide)]
  · refine ⟨.inl 1, 0, 1, len, fs, ld, ss, known, wait, ?_, ?_, lm_A.thr rfl (by decide), Or.inl rfl⟩
    · unfold fX9_alike
      rw [cn_noslot h hg hR h1 hno, pr_b]
    · unfold fX10_alike
      rw [qn_noplace hQ h1 hno, pr_b, tl_gt (by decide), if_pos (by decide), pr_b, qn_fails1 (by decide) (by decide), pr_b]
      dsimp only
      rw [tl_gt (show tl_R (1 : Int) by decide), if_neg (show ¬ (1 : Int) = 0 by decide)]
