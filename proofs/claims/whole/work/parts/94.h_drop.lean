/-! drop -/
theorem cz_loop {nl : Nat} {fo ru : Nat → Int} {g : Int} {U : Nat → Bool} {nu ki : Nat → Int} {w d : Nat → Nat → List Nat} (hn10 : nl ≤ 10) (hg : g ≤ 1000000) {G : List Nat} {gl : Int} {gi gs kk : Nat → Int} (hG : ps_S G gl gi gs) (hGU : ∀ k ∈ G, U k = true) :
    ∀ (n i : Nat) (wi di : Nat → Nat → List Nat) (ob pa : Int) (dl : Nat → Int) (dw : Nat → Int64) (hl : Nat → Int) (hw : Nat → Int64) (nn : Nat → Int), i ≤ G.length → G.length + 1 ≤ i + n → hs_I nl fo ru g (hz_U (G.take i) U) nu wi di → hc_R (hz_U (G.take i) U) nu ki wi di ob pa dl dw hl hw kk nn → hz_T G w d wi di → (∀ s ∈ G.take i, ∀ l, wi l s = [] ∧ di l s = []) →
      ∃ (w2 d2 : Nat → Nat → List Nat) (ob' pa' : Int) (dl' : Nat → Int) (dw' : Nat → Int64) (hl' : Nat → Int) (hw' : Nat → Int64) (nn' : Nat → Int), fX2_removeAll_L1 gl gs n (i : Int) ob pa dl dw hl hw nn = some (ob', pa', dl', dw', hl', hw', nn') ∧ hs_I nl fo ru g (hz_U G U) nu w2 d2 ∧ hc_R (hz_U G U) nu ki w2 d2 ob' pa' dl' dw' hl' hw' kk nn' ∧ hz_T G w d w2 d2 ∧ ∀ s ∈ G, ∀ l, w2 l s = [] ∧ d2 l s = [] := by
  have h100 := hG.le
  have he := hG.1
  intro n
  induction n with
  | zero => intro i wi di ob pa dl dw hl hw nn a b; omega
  | succ n ih =>
    intro i wi di ob pa dl dw hl hw nn hi hn hI hR hT hE
    rw [fX2_removeAll_L1]
    unfold fX4_length
    rw [pr_b, tl_gt ⟨⟨by omega, by omega⟩, ⟨by omega, by omega⟩⟩]
    by_cases q : i < G.length
    · have hm := List.getElem_mem q
      have hm1 := hG.2.2.1 _ hm
      have htk : G.take (i + 1) = G.take i ++ [G[i]] := List.take_succ_eq_append_getElem q
      have hni : G[i] ∉ G.take i := by
        intro z
        have h1 : (G.take (i + 1)).Nodup := hG.2.1.sublist (List.take_sublist _ _)
        rw [htk, List.nodup_append] at h1
        exact h1.2.2 _ z _ (List.mem_singleton.mpr rfl) rfl
      have hUi : hz_U (G.take i) U G[i] = true := by
        unfold hz_U
        rw [if_neg hni]
        exact hGU _ hm
      have hUe : va_up (hz_U (G.take i) U) G[i] false = hz_U (G.take (i + 1)) U := by
        funext k
        by_cases e : k = G[i]
        · rw [e, va_up_self]
          unfold hz_U
          rw [if_pos (by rw [htk]; exact List.mem_append_right _ (List.mem_singleton.mpr rfl))]
        · rw [va_up_ne _ _ e]
          unfold hz_U
          by_cases v : k ∈ G.take i
          · rw [if_pos v, if_pos (by rw [htk]; exact List.mem_append_left _ v)]
          · rw [if_neg v, if_neg (by rw [htk]; exact fun z => (List.mem_append.mp z).elim v (fun y => e (List.mem_singleton.mp y)))]
      obtain ⟨w2, d2, pa', dl', dw', hl', hw', a1, a2, a3, a4, a5⟩ := cz_remove hm1 hUi hn10 hg hI hR
      rw [hUe] at a2 a4
      rw [if_pos (by omega), ps_get hG q, pr_b, a1, pr_b, show (i : Int) + 1 = ((i + 1 : Nat) : Int) by omega]
      refine ih (i + 1) w2 d2 (ob - 1) pa' dl' dw' hl' hw' _ q (by omega) a4 a2 (hT.go hm a3) (fun s hs l => ?_)
      rw [htk] at hs
      rcases List.mem_append.mp hs with z | z
      · have := hE s z l
        exact ⟨hz_nil (a3.2.1 l s) this.1, hz_nil (a3.2.2.1 l s) this.2⟩
      · rw [List.mem_singleton.mp z]
        exact a5 l
    · rw [if_neg (by omega)]
      rw [List.take_of_length_le (by omega)] at hI hR hE
      exact ⟨wi, di, ob, pa, dl, dw, hl, hw, nn, rfl, hI, hR, hT, hE⟩
def hz_V (G : List Nat) (i : Nat) (U : Nat → Bool) (k : Nat) : Bool := if k ∈ G ∧ k < i then false else U k
theorem qz_loop {m pm km lv ra : Int} {z4 : Int × Int} {nl : Nat} {fo ru : Nat → Int} {g : Int} {U : Nat → Bool} {nu ki : Nat → Int} {w d : Nat → Nat → List Nat} (hn10 : nl ≤ 10) {G : List Nat} {gone kind number : Nat → Int} (hG : ∀ k ∈ G, k < 100 ∧ U k = true) (hgo : ∀ k, k < 100 → (gone k = 0 ∨ gone k = 1) ∧ (gone k ≠ 0 ↔ k ∈ G)) :
    ∀ (n i : Nat) (wi di : Nat → Nat → List Nat) (cnt ob : Int) (had hadMany has hasMany used : Nat → Int), i ≤ 100 → 101 ≤ i + n → cnt = (hs_sum (fun k => if k ∈ G then 1 else 0) i : Nat) → hs_I nl fo ru g (hz_V G i U) nu wi di → hq_R (hz_V G i U) nu ki wi di ob had hadMany has hasMany kind number used → hz_T G w d wi di → (∀ s ∈ G, s < i → ∀ l, wi l s = [] ∧ di l s = []) →
      ∃ (w2 d2 : Nat → Nat → List Nat) (ob' : Int) (had' hadMany' has' hasMany' used' : Nat → Int), fX10_drop_L4 (nl : Int) m pm km lv ra z4 gone n (i : Int) cnt ob had hadMany has hasMany used = some (((hs_sum (fun k => if k ∈ G then 1 else 0) 100 : Nat) : Int), ob', had', hadMany', has', hasMany', used') ∧ hs_I nl fo ru g (hz_V G 100 U) nu w2 d2 ∧ hq_R (hz_V G 100 U) nu ki w2 d2 ob' had' hadMany' has' hasMany' kind number used' ∧ hz_T G w d w2 d2 ∧ ∀ s ∈ G, s < 100 → ∀ l, w2 l s = [] ∧ d2 l s = [] := by
  intro n
  induction n with
  | zero => intro i wi di cnt ob had hadMany has hasMany used a b; omega
  | succ n ih =>
    intro i wi di cnt ob had hadMany has hasMany used hi hn hc hI hQ hT hE
    rw [fX10_drop_L4, tl_gt ⟨⟨by omega, by omega⟩, by decide⟩]
    by_cases q : i < 100
    · have hgi := hgo i q
      rw [if_pos (by omega), tl_gt ⟨by omega, by omega⟩, Int.toNat_natCast, tl_gt (show tl_R (gone i) by rcases hgi.1 with z | z <;> (rw [z]; decide)), show (i : Int) + 1 = ((i + 1 : Nat) : Int) by omega]
      by_cases c : i ∈ G
      · have hUi : hz_V G i U i = true := by
          unfold hz_V
          rw [if_neg (fun z => by omega)]
          exact (hG i c).2
        have hUe : va_up (hz_V G i U) i false = hz_V G (i + 1) U := by
          funext k
          by_cases e : k = i
          · rw [e, va_up_self]
            unfold hz_V
            rw [if_pos ⟨c, by omega⟩]
          · rw [va_up_ne _ _ e]
            unfold hz_V
            by_cases v : k ∈ G ∧ k < i
            · rw [if_pos v, if_pos ⟨v.1, by omega⟩]
            · rw [if_neg v, if_neg (fun z => v ⟨z.1, by omega⟩)]
        obtain ⟨w2, d2, had', hadMany', has', hasMany', a1, a2, a3, a4, a5⟩ := qz_erase (t := z4.2) (m := m) (pm := pm) (km := km) (lv := lv) (ra := ra) hn10 q hUi hI hQ
        rw [hUe] at a2 a4
        rw [if_neg (hgi.2.mpr c), a1, pr_b]
        refine ih (i + 1) w2 d2 _ _ _ _ _ _ _ q (by omega) ?_ a4 a2 (hT.go c a3) (fun s hs hsi l => ?_)
        · rw [hs_sum, hc, if_pos c]
          omega
        · by_cases e : s = i
          · rw [e]
            exact a5 l
          · have := hE s hs (by omega) l
            exact ⟨hz_nil (a3.2.1 l s) this.1, hz_nil (a3.2.2.1 l s) this.2⟩
      · have hg0 : gone i = 0 := by
          by_cases z : gone i = 0
          · exact z
          · exact absurd (hgi.2.mp z) c
        have hUe : hz_V G i U = hz_V G (i + 1) U := by
          funext k
          unfold hz_V
          by_cases v : k ∈ G ∧ k < i
          · rw [if_pos v, if_pos ⟨v.1, by omega⟩]
          · have hne : k ∈ G → k ≠ i := fun z e => c (e ▸ z)
            rw [if_neg v, if_neg (fun z => v ⟨z.1, by have := hne z.1; omega⟩)]
        rw [hUe] at hI hQ
        rw [if_pos hg0]
        refine ih (i + 1) wi di _ _ _ _ _ _ _ q (by omega) ?_ hI hQ hT (fun s hs hsi l => hE s hs (by
          have : s ≠ i := fun e => c (e ▸ hs)
          omega) l)
        rw [hs_sum, hc, if_neg c]
        rfl
    · have e : i = 100 := by omega
      rw [e] at hI hQ hE hc
      rw [if_neg (by omega), hc]
      exact ⟨wi, di, ob, had, hadMany, has, hasMany, used, rfl, hI, hQ, hT, hE⟩
theorem ca_drop {lv t km lv2 ra : Int} {nl : Nat} {fo fr ru to fo2 fr2 ru2 to2 : Nat → Int} (hTo : ht_R nl fo fr ru to fo2 fr2 ru2 to2) {g : Int} {U : Nat → Bool} {nu ki : Nat → Int} {w d : Nat → Nat → List Nat} (h : hs_I nl fo ru g U nu w d) (hg : g ≤ 1000000) {ob pa : Int} {dl : Nat → Int} {dw : Nat → Int64} {hl : Nat → Int} {hw : Nat → Int64} {kk nn : Nat → Int} (hR : hc_R U nu ki w d ob pa dl dw hl hw kk nn) {ob2 : Int} {had hadMany has hasMany kind number used : Nat → Int} (hQ : hq_R U nu ki w d ob2 had hadMany has hasMany kind number used) {G0 O0 P0 R T : List Nat} {L : List Int} {gl ol pl rl spl tl pm : Int} {gi gs oi os pi ps ri rs spi sps st tv pv gone queue steps : Nat → Int} (hG0 : ps_S G0 gl gi gs) (hO0 : ps_S O0 ol oi os) (hP0 : ps_S P0 pl pi ps) (hS : ps_S R rl ri rs) (hT2 : ps_S T spl spi sps) (hL : pt_T 100 L tl tv) (hP : pt_T 101 L pm pv) (hgo0 : ∀ k, k < 100 → tl_R (gone k)) {p1 : Int} (h1 : tl_R p1) :
    ∃ (c : Nat ⊕ Int) (b t' : Int) (U' : Nat → Bool) (w' d' : Nat → Nat → List Nat) (G' O' P' R' T' : List Nat) (L' : List Int) (dl' : Nat → Int) (dw' : Nat → Int64) (hl' : Nat → Int) (hw' : Nat → Int64) (nn' gi' gs' oi' os' pi' ps' tv' ri' rs' spi' sps' st' : Nat → Int) (ob' pa' gl' ol' pl' tl' rl' spl' : Int) (gone' had' hadMany' has' hasMany' pv' queue' steps' used' : Nat → Int) (ob2' pm' : Int),
      fX9_drop g lv ob pa dl dw hl hw nn gl gi gs ol oi os pl pi ps (nl : Int) ru tl tv rl ri rs spl spi sps st p1 = some (c, dl', dw', hl', hw', nn', gi', gs', oi', os', pi', ps', tv', ri', rs', spi', sps', st', ob', pa', gl', ol', pl', tl', rl', spl') ∧
      fX10_drop t (nl : Int) ob2 g pm km lv2 ra gone had hadMany has hasMany number pv queue ru2 steps used p1 = some (b, gone', had', hadMany', has', hasMany', pv', queue', steps', used', ob2', pm', t') ∧
      lm_A lf_drop c b t' ∧ hs_I nl fo ru g U' nu w' d' ∧ hc_R U' nu ki w' d' ob' pa' dl' dw' hl' hw' kk nn' ∧ hq_R U' nu ki w' d' ob2' had' hadMany' has' hasMany' kind number used' ∧ ps_S G' gl' gi' gs' ∧ ps_S O' ol' oi' os' ∧ ps_S P' pl' pi' ps' ∧ ps_S R' rl' ri' rs' ∧ ps_S T' spl' spi' sps' ∧ pt_T 100 L' tl' tv' ∧ pt_T 101 L' pm' pv' ∧ ∀ k, k < 100 → tl_R (gone' k) := by
  have hn := hTo.1
  have hr : ∀ l, l < nl → tl_R (ru l) := fun l hl => by
    have := hTo.2 l hl
    exact ⟨by omega, by omega⟩
  rcases hs_find U nu p1 with ⟨x, hx, hUx, ex⟩ | hno
  · obtain ⟨r1, r2, r3, r4, r5, r6⟩ := id hR
    obtain ⟨q1, q2, q3, q4, q5, q6⟩ := id hQ
    obtain ⟨G, O', P', gl', ol', pl', gi', gs', oi', os', pi', ps', a1, a2, a3, a4, a5⟩ := cg_gather (ob := ob) (pa := pa) h r3 r4 hn hr hx hG0 hO0 hP0
    obtain ⟨x7, gone', b1, b2, b3⟩ := hq_gone (o := ob2) (m := g) (pm := pm) (km := km) (lv := lv2) (ra := ra) (z4 := ((0 : Int), (0 : Int))) (gone := gone) hTo h q2 q6 hx
    have hgo : ∀ k, k < 100 → (gone' k = 0 ∨ gone' k = 1) ∧ (gone' k ≠ 0 ↔ k ∈ G) := fun k hk => ⟨(b3 k hk).1, by rw [(b3 k hk).2, a5 k]⟩
    have hgR : ∀ k, k < 100 → tl_R (gone' k) := fun k hk => by
      rcases (hgo k hk).1 with z | z <;> (rw [z]; decide)
    have hGS : hm_S nl ru d x G := ⟨a2.2.1, a2.2.2.1, a5⟩
    have F : pw_F (pw_own nl ru w) x (pw_spread (pw_own nl ru w) x).1 (pw_spread (pw_own nl ru w) x).2 := pw_spread_F (fun y _ z hz => (hs_own_w h hz).2.1) hx
    have hFU : ∀ y ∈ (pw_spread (pw_own nl ru w) x).1, U y = true := pw_spread_all (P := fun y => U y = true) (fun y _ z hz => (hs_own_w h hz).2.2.2.1) hUx
    have hlenF := ps_len 100 _ F.nd F.lt
    have hGN : ∀ k ∈ G, k ∈ (pw_spread (pw_own nl ru w) x).1 := fun k hk => hm_reach h hx ((a5 k).mp hk)
    have hGU : ∀ k ∈ G, U k = true := fun k hk => hFU k (hGN k hk)
    have hDN : ∀ k ∈ (pw_spread (pw_own nl ru w) x).1, 0 ≤ (pw_spread (pw_own nl ru w) x).2 k ∧ (pw_spread (pw_own nl ru w) x).2 k < 100 := fun k hk => ⟨F.ge k hk, by have := F.le k hk; omega⟩
    obtain ⟨i1, l1, st1, s1, c1, c2, c3⟩ := pw_spread_eq r4 hn hr hS st hx
    have e1 := cf_first_L (nu := nu) (D := (pw_spread (pw_own nl ru w) x).2) h hg hn hr hR a2 (z2 := (i1, l1, st1, s1)) c2 c3 hFU hDN tl_N 0 (-1) (Nat.zero_le _) (by unfold tl_N; omega) (Or.inl rfl)
    rw [show ((0 : Nat) : Int) = (0 : Int) from rfl, List.drop_zero] at e1
    obtain ⟨qu1, sp1, e2⟩ := qf_first_L (t := 0) (o := ob2) (m := g) (pm := pm) (km := km) (lv := lv2) (ra := ra) hTo h hg hQ hx hGS hGU hgo (D := (pw_spread (pw_own nl ru w) x).2) (fun k hk => ⟨by rw [(hm_same h hx hGS hk).1]; exact (hm_far h hx hGS hk).2, hDN k (hGN k hk)⟩) tl_N 100 0 0 (-1) queue steps (by omega) (by unfold tl_N; omega) (Or.inl rfl) (by decide)
    rw [show ((0 : Nat) : Int) = (0 : Int) from rfl] at e2
    have L1 := pl_fold_is (P := fun y => y ∈ G ∧ hb_b nl ru nu w G y ≠ -1) (num := hf_K (pw_spread (pw_own nl ru w) x).2 nu) (pw_spread (pw_own nl ru w) x).1
    have L2 := pl_fold_is (P := fun y => y ∈ G ∧ hb_b nl ru nu w G y ≠ -1) (num := hf_K (pw_spread (pw_own nl ru w) x).2 nu) (List.range' 0 100)
    have eq := L1.one L2 (fun y => ⟨fun z => ⟨List.mem_range'_1.mpr ⟨Nat.zero_le _, by have := F.lt y z.1; omega⟩, z.2⟩, fun z => ⟨hGN y z.2.1, z.2⟩⟩) (fun y hy z hz e => by
      have h2 := h.num y (F.lt y hy) (hFU y hy)
      have h3 := h.num z (F.lt z hz) (hFU z hz)
      refine h.inj y z (F.lt y hy) (F.lt z hz) (hFU y hy) (hFU z hz) ?_
      unfold hf_K at e
      omega)
    rw [← eq] at e2
    have iX : tl_in (x : Int) 100 ∧ ((1 : Int) = 0 ∨ (1 : Int) = 1) := ⟨⟨by omega, by omega⟩, Or.inr rfl⟩
    have eF : fX2_firstBarred gl' gi' (nl : Int) ru rl ri rs st ob pa hl hw nn (x : Int) = some (pl_fold (fun y => y ∈ G ∧ hb_b nl ru nu w G y ≠ -1) (hf_K (pw_spread (pw_own nl ru w) x).2 nu) (-1) (pw_spread (pw_own nl ru w) x).1, i1, l1, st1, s1) := by
      unfold fX2_firstBarred fX1_has
      rw [pr_b, c1, pr_b, e1, pr_b]
    have eQ : fX10_firstBarred 0 (nl : Int) ob2 g pm km lv2 ra gone' had hadMany has hasMany number queue ru2 steps (x : Int) = some (pl_fold (fun y => y ∈ G ∧ hb_b nl ru nu w G y ≠ -1) (hf_K (pw_spread (pw_own nl ru w) x).2 nu) (-1) (pw_spread (pw_own nl ru w) x).1, qu1, sp1) := by
      unfold fX10_firstBarred
      rw [e2, pr_b]
    rcases L1 with ⟨f1, f2⟩ | ⟨k, f1, f2, f3, _⟩
    · rw [f1] at eF eQ
      have hU0 : hz_U (G.take 0) U = U := by
        funext k
        unfold hz_U
        rw [List.take_zero, if_neg (by simp)]
      have hV0 : hz_V G 0 U = U := by
        funext k
        unfold hz_V
        rw [if_neg (fun z => by omega)]
      have hT0 : hz_T G w d w d := ⟨fun _ _ => List.Sublist.refl _, fun _ _ => List.Sublist.refl _, fun _ _ _ z _ _ => z⟩
      obtain ⟨w2, d2, ob', pa', dl', dw', hl', hw', nn', g1, g2, g3, g4, g5⟩ := cz_loop (w := w) (d := d) hn hg a2 hGU tl_N 0 w d ob pa dl dw hl hw nn (Nat.zero_le _) (by have := a2.le; unfold tl_N; omega) (by rw [hU0]; exact h) (by rw [hU0]; exact hR) hT0 (fun s hs => by rw [List.take_zero] at hs; cases hs)
      obtain ⟨w3, d3, ob2', had', hadMany', has', hasMany', used', k1, k2, k3, k4, k5⟩ := qz_loop (m := g) (pm := pm) (km := km) (lv := lv2) (ra := ra) (z4 := ((0 : Int), (0 : Int))) (w := w) (d := d) hn (fun k hk => ⟨a2.2.2.1 k hk, hGU k hk⟩) hgo tl_N 0 w d 0 ob2 had hadMany has hasMany used (by omega) (by unfold tl_N; omega) (by rw [hs_sum]; rfl) (by rw [hV0]; exact h) (by rw [hV0]; exact hQ) hT0 (fun s _ z => by omega)
      rw [show ((0 : Nat) : Int) = (0 : Int) from rfl] at g1 k1
      have hVU : hz_V G 100 U = hz_U G U := by
        funext k
        unfold hz_V hz_U
        by_cases v : k ∈ G
        · rw [if_pos v, if_pos ⟨v, a2.2.2.1 k v⟩]
        · rw [if_neg v, if_neg (fun z => v z.1)]
      rw [hVU] at k2 k3
      obtain ⟨m1, m2⟩ := hz_end h g2 g4 g5
      obtain ⟨m3, m4⟩ := hz_end h k2 k4 (fun s hs => k5 s hs (a2.2.2.1 s hs))
      rw [m3, m4] at k3
      rw [m1, m2] at g2 g3
      have hcnt := hs_cnt_len 100 G a2.2.1 a2.2.2.1
      rw [hcnt] at k1
      refine ⟨.inr (G.length : Int), (G.length : Int), 0, hz_U G U, hz_W G w, hz_W G d, G, O', P', _, T, L, dl', dw', hl', hw', nn', gi', gs', oi', os', pi', ps', tv, i1, l1, spi, sps, st1, ob', pa', gl', ol', pl', tl, s1, spl, gone', had', hadMany', has', hasMany', pv, qu1, sp1, used', ob2', pm, ?_, ?_, lm_A.ret rfl rfl, g2, g3, k3, a2, a3, a4, c2, hT2, hL, hP, hgR⟩
      · unfold fX9_drop
        rw [cn_slot h hg hR h1 hx hUx ex, pr_b]
        dsimp only
        rw [a1, pr_b]
        dsimp only
        rw [eF, pr_b]
        dsimp only
        rw [tl_gt (by decide), if_pos rfl]
        unfold fX2_removeAll fX4_length
        rw [g1, pr_b]
        dsimp only
        rw [pr_b, pr_b, a2.1]
      · unfold fX10_drop
        rw [qn_place h hQ h1 hx hUx ex, pr_b, tl_gt ⟨by omega, by omega⟩, if_neg (by omega), pr_b, qn_fails0, pr_b]
        dsimp only
        rw [tl_gt (show tl_R (0 : Int) by decide), if_pos rfl, qn_place h hQ h1 hx hUx ex, pr_b, b1, pr_b, tl_gt iX, Int.toNat_natCast, b2, pr_b, eQ, pr_b]
        dsimp only
        rw [tl_gt (by decide), if_pos (by decide), k1, pr_b]
    · rw [f1] at eF eQ
      have hkG := f3.1
      have hk100 := a2.2.2.1 k hkG
      have hUk := hGU k hkG
      rcases hb_is h G k with z | ⟨bb, bb1, bb2, bb3, bb4⟩
      · exact absurd z f3.2
      · obtain ⟨R', T', tv', ri', rs', spi', sps', st', tl', rl', spl', g1, g2, g3, g4⟩ := hc_findWay (st := st1) (x := x) (p := k) hTo h hg hR hx hk100 hUk c2 hT2 hL
        have far := hm_far h hx hGS hkG
        have same := hm_same h hx hGS hkG
        rw [if_pos far.1] at g1 g4
        obtain ⟨qu2, sp2, m1, m2⟩ := hq_measureM (t := 0) (o := ob2) (m := g) (pm := pm) (km := km) (lv := lv2) (ra := ra) (queue := qu1) (steps := sp1) hTo h hQ hgo hk100 hUk
        have M := hm_F h G hk100
        have hMU : ∀ y ∈ (pw_spread (hm_own nl ru d G) k).1, U y = true := fun y hy => hGU y (pw_spread_all (P := fun y => y ∈ G) (fun y _ z hz => (hm_mem.mp hz).2) hkG y hy)
        have h0M : 0 ≤ hm_D nl ru d G k x := by
          rw [same.1]
          exact far.1
        obtain ⟨pm2, pv2, n1, n2⟩ := hq_walkG (t := 0) (o := ob2) (m := g) (pm := pm) (km := km) (lv := lv2) (ra := ra) (pv := pv) hTo h hQ M hMU (fun a b hb => (hm_mem.mp hb).1) m2 h0M
        have hway : pw_way (pw_own nl ru w) nu (hs_D nl ru d k) (hs_D nl ru d k x).toNat x = pw_way (pw_own nl ru w) nu (hm_D nl ru d G k) (hm_D nl ru d G k x).toNat x := by
          rw [same.1]
          exact hm_way (top := hs_D nl ru d k x) (fun y hy _ => hs_D_ex h hk100 hy) same.2 _ x (by omega) (by rw [same.1]; omega) (by omega)
        have n2' : pt_T 101 (nu x :: (pw_way (pw_own nl ru w) nu (hm_D nl ru d G k) (hm_D nl ru d G k x).toNat x).map nu) pm2 pv2 := n2
        rw [← hway] at n2'
        have hsh := hm_short h hGS hkG bb4 bb2 x
        have hlen : (nu x :: (pw_way (pw_own nl ru w) nu (hs_D nl ru d k) (hs_D nl ru d k x).toNat x).map nu).length < 100 := by
          rw [List.length_cons, List.length_map, pw_way_len]
          rw [same.1] at hsh
          omega
        have p1' := pt_app g4 hlen (nu bb)
        have p2' := pt_app n2' (by omega) (nu bb)
        refine ⟨.inl 5, 0, 2, U, w, d, G, O', P', R', T', _, dl, dw, hl, hw, nn, gi', gs', oi', os', pi', ps', va_up tv' tl'.toNat (nu bb), ri', rs', spi', sps', st', ob, pa, gl', ol', pl', tl' + 1, rl', spl', gone', had, hadMany, has, hasMany, va_up pv2 pm2.toNat (nu bb), qu2, sp2, used, ob2, pm2 + 1, ?_, ?_, lm_A.thr rfl (by decide), h, hR, hQ, a2, a3, a4, g2, g3, p1', p2', hgR⟩
        · unfold fX9_drop
          rw [cn_slot h hg hR h1 hx hUx ex, pr_b]
          dsimp only
          rw [a1, pr_b]
          dsimp only
          rw [eF, pr_b]
          dsimp only
          rw [tl_gt ⟨⟨by omega, by omega⟩, by decide⟩, if_neg (by omega), g1, pr_b]
          dsimp only
          rw [cb_bar h hg hn hr hR a2 hk100, pr_b, bb1, ph_numberOf bb2, pr_b, r6 bb bb2, if_pos bb3, pt_add g4 hlen, pr_b]
        · unfold fX10_drop
          rw [qn_place h hQ h1 hx hUx ex, pr_b, tl_gt ⟨by omega, by omega⟩, if_neg (by omega), pr_b, qn_fails0, pr_b]
          dsimp only
          rw [tl_gt (show tl_R (0 : Int) by decide), if_pos rfl, qn_place h hQ h1 hx hUx ex, pr_b, b1, pr_b, tl_gt iX, Int.toNat_natCast, b2, pr_b, eQ, pr_b]
          dsimp only
          rw [tl_gt ⟨by omega, by omega⟩, if_neg (by omega), m1, pr_b]
          dsimp only
          rw [n1, pr_b]
          dsimp only
          rw [qb_bar hTo h hQ hgo hk100 hUk, pr_b, bb1, qw_add n2' (by omega) bb2, pr_b, (q5 bb bb2).2 bb3]
  · refine ⟨.inl 1, 0, 1, U, w, d, G0, O0, P0, R, T, L, dl, dw, hl, hw, nn, gi, gs, oi, os, pi, ps, tv, ri, rs, spi, sps, st, ob, pa, gl, ol, pl, tl, rl, spl, gone, had, hadMany, has, hasMany, pv, queue, steps, used, ob2, pm, ?_, ?_, lm_A.thr rfl (by decide), h, hR, hQ, hG0, hO0, hP0, hS, hT2, hL, hP, hgo0⟩
    · unfold fX9_drop
      rw [cn_noslot h hg hR h1 hno, pr_b]
    · unfold fX10_drop
      rw [qn_noplace hQ h1 hno, pr_b, tl_gt (by decide), if_pos (by decide), pr_b, qn_fails1 (by decide) (by decide), pr_b]
      dsimp only
      rw [tl_gt (show tl_R (1 : Int) by decide), if_neg (show ¬ (1 : Int) = 0 by decide)]
