/-! Y: found, counts, bits, order, hints, common -/
theorem yw_f25 {post : Int32 → SY → Prop} {sy l wt qu cs : Nat → Int32} {n : Nat} (hl : ed_ok l) (hn : n ≤ 6) {w : Nat} (hw : w < 10) (H : ∀ cs', post (ed_bI (ed_fd l sy qu n w)) (nI n, l, sy, wt, qu, cs')) : wY_isFound_25 post (nI w) (nI (ed_fg n)) (nI n) l sy wt qu cs := by
  have b1 := ed_tyle l sy qu n w
  have b2 := ed_fgle n
  unfold wY_isFound_25
  refine yw_is hl hw (ed_gX (fun z => ?_) (fun z => ?_))
  · refine yw_edits hl hn hw fun cs' => pk_lt (ed_fg n) (ed_ty l sy qu n w) (fun h => ?_) (fun h => ?_)
    · have g := H cs'; rw [ed_fdf (by omega)] at g; exact g
    · have g := H cs'; rw [ed_fdt (ed_wd1 z) h] at g; exact g
  · have g := H cs; rw [ed_fd0 (ed_wd0 z)] at g; exact g
theorem yw_isFound {post : Int32 → SY → Prop} {sy l wt qu cs : Nat → Int32} {n : Nat} (hl : ed_ok l) (hn : n ≤ 6) {w : Nat} (hw : w < 10) (H : ∀ cs', post (ed_bI (ed_fd l sy qu n w)) (nI n, l, sy, wt, qu, cs')) : wpY_isFound post (nI n, l, sy, wt, qu, cs) (nI w) := by
  have g := yw_f25 (cs := cs) hl hn hw H
  unfold wpY_isFound
  refine pk_le 3 n (fun h3 => pk_le 5 n (fun h5 => ?_) (fun h5 => ?_)) (fun h3 => ?_)
  · rw [show ed_fg n = 2 by unfold ed_fg; rw [if_neg (by omega), if_neg (by omega)]] at g; exact g
  · rw [show ed_fg n = 1 by unfold ed_fg; rw [if_neg (by omega), if_pos (by omega)]] at g; exact g
  · rw [show ed_fg n = 0 by unfold ed_fg; rw [if_pos (by omega)]] at g; exact g
theorem yw_isFoundN {post : Int32 → SY → Prop} {sy l wt qu cs : Nat → Int32} {n : Nat} {x : Int32} (h : ed_out x) (H : post 0 (nI n, l, sy, wt, qu, cs)) : wpY_isFound post (nI n, l, sy, wt, qu, cs) x := by
  have g : ∀ z0, wY_isFound_25 post x z0 (nI n) l sy wt qu cs := fun z0 => by
    unfold wY_isFound_25
    exact yw_isN h (br_t rfl H)
  unfold wpY_isFound
  exact br_c (fun _ => br_c (fun _ => g 2) (fun _ => g 1)) (fun _ => g 0)
theorem yw_found4 {post : Int32 → SY → Prop} {sy l wt qu : Nat → Int32} {n : Nat} (hl : ed_ok l) (hn : n ≤ 6) (H : ∀ cs', post (ed_bx (ed_fd l sy qu n) 10) (nI n, l, sy, wt, qu, cs')) :
    ∀ d k cs, k + d = 10 → wY_found_4 post (d + 1) (ed_bx (ed_fd l sy qu n) k) (nI k) (nI n) l sy wt qu cs := by
  intro d
  induction d with
  | zero =>
    intro k cs hk
    have e : k = 10 := by omega
    subst e
    exact br_t ed_10 (H cs)
  | succ d ih =>
    intro k cs hk
    refine br_f (ed_w10 (by omega)) (yw_isFound hl hn (by omega) fun c1 => ed_gX (fun z => ?_) (fun z => ?_))
    · exact nm_r (ed_bxt z).symm (nm_r (nI_1 k) (ih (k + 1) c1 (by omega)))
    · exact nm_r (nI_1 k) (by have next := ih (k + 1) c1 (by omega); rw [ed_bxf z] at next; exact next)
theorem yw_found {post : Int32 → SY → Prop} {sy l wt qu cs : Nat → Int32} {n : Nat} (hl : ed_ok l) (hn : n ≤ 6) (H : ∀ cs', post (ed_bx (ed_fd l sy qu n) 10) (nI n, l, sy, wt, qu, cs')) : wpY_found post (nI n, l, sy, wt, qu, cs) :=
  ⟨11, yw_found4 hl hn H 10 0 cs rfl⟩
theorem yw_words4 {post : Int32 → Prop} {sy l wt qu cs : Nat → Int32} {n : Nat} (hl : ed_ok l) (H : post (ed_bx (ed_wd l) 10)) :
    ∀ d k, k + d = 10 → wY_words_4 post (nI n) l sy wt qu cs (d + 1) (ed_bx (ed_wd l) k) (nI k) := by
  intro d
  induction d with
  | zero =>
    intro k hk
    have e : k = 10 := by omega
    subst e
    exact br_t ed_10 H
  | succ d ih =>
    intro k hk
    refine br_f (ed_w10 (by omega)) (yw_is hl (by omega) (ed_gX (fun z => ?_) (fun z => ?_)))
    · exact nm_r (ed_bxt z).symm (nm_r (nI_1 k) (ih (k + 1) (by omega)))
    · exact nm_r (nI_1 k) (by have next := ih (k + 1) (by omega); rw [ed_bxf z] at next; exact next)
theorem yw_words {post : Int32 → Prop} {sy l wt qu cs : Nat → Int32} {n : Nat} (hl : ed_ok l) (H : post (ed_bx (ed_wd l) 10)) : wpY_words post (nI n, l, sy, wt, qu, cs) :=
  ⟨11, yw_words4 hl H 10 0 rfl⟩
theorem ed_cnI (b : Nat → Bool) (k : Nat) : nI (ed_cn b k) + ed_bI (b k) = nI (ed_cn b (k + 1)) := by
  by_cases h : b k = true
  · rw [ed_cnt h, h]; exact nI_1 _
  · rw [ed_cnf (ed_ff h), ed_ff h]; exact Int32.add_zero _
theorem yw_count9 {post : Int32 → SY → Prop} {sy l wt qu cs : Nat → Int32} {n : Nat} (b : Nat → Bool) (H : post (nI (ed_cn b 10)) (nI n, l, sy, wt, qu, cs)) :
    ∀ d k, k + d = 10 → wY_count_9 post (ed_bx b 10) (nI n) l sy wt qu cs (d + 1) (nI (ed_cn b k)) (nI k) := by
  intro d
  induction d with
  | zero =>
    intro k hk
    have e : k = 10 := by omega
    subst e
    exact br_t ed_10 H
  | succ d ih =>
    intro k hk
    exact br_f (ed_w10 (by omega)) (nm_r (by rw [ed_bit b k (by omega)]; exact ed_cnI b k) (nm_r (nI_1 k) (ih (k + 1) (by omega))))
theorem yw_count {post : Int32 → SY → Prop} {sy l wt qu cs : Nat → Int32} {n : Nat} (hl : ed_ok l) (hn : n ≤ 6) (H : ∀ cs', post (nI (ed_cn (ed_fd l sy qu n) 10)) (nI n, l, sy, wt, qu, cs')) : wpY_count post (nI n, l, sy, wt, qu, cs) := by
  unfold wpY_count
  exact yw_found hl hn fun c1 => ⟨11, yw_count9 _ (H c1) 10 0 rfl⟩
theorem yw_ex0 {post : Int32 → Prop} {sy l wt qu cs : Nat → Int32} {n : Nat} {x y : Int32} {f : Nat} (H : post 0) : wY_exact_21 post x (nI n) l sy wt qu cs (f + 1) 0 y :=
  br_c (fun _ => ⟨ed_nb false, H⟩) (fun _ => br_t rfl ⟨ed_nb false, H⟩)
theorem yw_exact21 {post : Int32 → Prop} {sy l wt qu cs : Nat → Int32} {n : Nat} (hn : n ≤ 6) {w : Nat} (hw : w < 10) (hL : ed_tl l w = n) (H : post (ed_bI (ed_ex l sy qu n w))) :
    ∀ d i, i + d = n → (∀ t, t < i → sy (6 * w + t) = qu t) → wY_exact_21 post (nI w) (nI n) l sy wt qu cs (d + 2) 1 (nI i) := by
  intro d
  induction d with
  | zero =>
    intro i hi h
    have e : i = n := by omega
    subst e
    rw [ed_ext hL h] at H
    exact br_t (Int32.le_refl _) ⟨ed_nb true, H⟩
  | succ d ih =>
    intro i hi h
    have e1 : sy ((6 : Int32) * nI w + nI i).toNatClampNeg = sy (6 * w + i) := by rw [ed_iy1, nI_clamp (by omega)]
    have v1 : vp_in ((6 : Int32) * nI w + nI i) 60 := by rw [ed_iy1]; exact vp_in_nI (by omega) (by omega)
    have e2 : qu (nI i).toNatClampNeg = qu i := ed_cI (by omega)
    refine br_f (nI_ge (by omega) (by omega)) (br_f (by decide) ⟨v1, vp_in_nI (by omega) (by omega), ?_⟩)
    by_cases he : sy (6 * w + i) = qu i
    · exact br_t (by rw [e1, e2]; exact he) (nm_r (nI_1 i) (ih (i + 1) (by omega) (lt_s h he)))
    · rw [ed_exi i (by omega) he] at H
      exact br_f (by rw [e1, e2]; exact he) (nm_r (nI_1 i) (yw_ex0 H))
theorem yw_exact {post : Int32 → Prop} {sy l wt qu cs : Nat → Int32} {n : Nat} (hl : ed_ok l) (hn : n ≤ 6) {w : Nat} (hw : w < 10) (H : post (ed_bI (ed_ex l sy qu n w))) : wpY_exact post (nI n, l, sy, wt, qu, cs) (nI w) := by
  have hm := ed_ok2 hl w
  refine ⟨vp_in_nI hw (by omega), pk_eq (ed_tl l w) n (fun h => ⟨n + 2, yw_exact21 hn hw h H n 0 (by omega) lt_0⟩) (fun h => ⟨1, yw_ex0 ?_⟩) (ed_la hl hw) rfl⟩
  rw [ed_exl h] at H
  exact H
theorem yw_before {post : Int32 → SY → Prop} {sy l wt qu cs : Nat → Int32} {n : Nat} (hl : ed_ok l) (hn : n ≤ 6) {a b : Nat} (ha : a < 10) (hb : b < 10) (H : ∀ cs', post (ed_bI (ed_gb l sy wt qu n a b)) (nI n, l, sy, wt, qu, cs')) : wpY_before post (nI n, l, sy, wt, qu, cs) (nI a) (nI b) := by
  have t1 := ed_tyle l sy qu n a
  have t2 := ed_tyle l sy qu n b
  have m1 := ed_ok2 hl a
  have m2 := ed_ok2 hl b
  have via : vp_in (nI a) 10 := vp_in_nI ha (by omega)
  have vib : vp_in (nI b) 10 := vp_in_nI hb (by omega)
  have ea : wt (nI a).toNatClampNeg = wt a := ed_cI (by omega)
  have eb : wt (nI b).toNatClampNeg = wt b := ed_cI (by omega)
  unfold ed_gb at H
  unfold wpY_before
  refine yw_edits hl hn ha (fun c1 => yw_edits hl hn hb (fun c2 => yw_exact hl hn ha (yw_exact hl hn hb (pk_eq (ed_ty l sy qu n a) (ed_ty l sy qu n b) (fun h1 => ?_) (fun h1 => ?_)))))
  · rw [if_pos h1] at H
    by_cases h2 : ed_ex l sy qu n a = ed_ex l sy qu n b
    · rw [if_pos h2] at H
      refine br_t (by rw [h2]) ⟨via, vib, pk_eq (ed_tl l a) (ed_tl l b) (fun h3 => ⟨via, vib, ?_⟩) (fun h3 => ⟨via, vib, pk_le (ed_tl l b) (ed_tl l a) (fun h4 => ?_) (fun h4 => ?_) (ed_la hl hb) (ed_la hl ha)⟩) (ed_la hl ha) (ed_la hl hb)⟩
      · rw [if_pos h3] at H
        by_cases h4 : wt a = wt b
        · rw [if_pos h4] at H
          refine br_f (by rw [ea, eb, h4]; exact Int32.lt_irrefl) ⟨via, vib, br_t (by rw [ea, eb]; exact h4) (pk_le b a (fun h5 => ?_) (fun h5 => ?_))⟩
          · have g := H c2; rw [decide_eq_false (by omega)] at g; exact g
          · have g := H c2; rw [decide_eq_true (by omega)] at g; exact g
        · rw [if_neg h4] at H
          by_cases h5 : wt b < wt a
          · have g := H c2; rw [decide_eq_true h5] at g
            exact br_t (by rw [ea, eb]; exact h5) g
          · have g := H c2; rw [decide_eq_false h5] at g
            exact br_f (by rw [ea, eb]; exact h5) ⟨via, vib, br_f (by rw [ea, eb]; exact h4) g⟩
      · have g := H c2; rw [if_neg h3, decide_eq_false (by omega)] at g; exact g
      · have g := H c2; rw [if_neg h3, decide_eq_true (by omega)] at g; exact g
    · rw [if_neg h2] at H
      exact br_f (fun z => h2 (ed_bInj z)) ⟨ed_nb _, H c2⟩
  · rw [if_neg h1] at H
    refine pk_le (ed_ty l sy qu n b) (ed_ty l sy qu n a) (fun h4 => ?_) (fun h4 => ?_)
    · have g := H c2; rw [decide_eq_false (by omega)] at g; exact g
    · have g := H c2; rw [decide_eq_true (by omega)] at g; exact g
theorem yw_place14 {post : Int32 → SY → Prop} {sy l wt qu : Nat → Int32} {n : Nat} (hl : ed_ok l) (hn : n ≤ 6) {w : Nat} (hw : w < 10) (H : ∀ cs', post (nI (ed_cb l sy wt qu n w)) (nI n, l, sy, wt, qu, cs')) :
    ∀ d k cs, k + d = 10 → wY_place_14 post (nI w) (d + 1) (nI (ed_cn (ed_be l sy wt qu n w) k)) (nI k) (nI n) l sy wt qu cs := by
  intro d
  induction d with
  | zero =>
    intro k cs hk
    have e : k = 10 := by omega
    subst e
    exact br_t ed_10 (H cs)
  | succ d ih =>
    intro k cs hk
    have nf : ∀ c1, ed_be l sy wt qu n w k = false → wY_place_14 post (nI w) (d + 1) (nI (ed_cn (ed_be l sy wt qu n w) k)) (nI (k + 1)) (nI n) l sy wt qu c1 := by
      intro c1 z
      have next := ih (k + 1) c1 (by omega)
      rw [ed_cnf z] at next
      exact next
    refine br_f (ed_w10 (by omega)) (pk_eq k w (fun h => nm_r (nI_1 k) (nf cs (ed_beq h))) (fun h => ?_))
    refine yw_isFound hl hn (by omega) fun c1 => ed_gX (fun z => ?_) (fun z => nm_r (nI_1 k) (nf c1 (ed_bef z)))
    refine yw_before hl hn (by omega) hw fun c2 => ed_gX (fun y => ?_) (fun y => nm_r (nI_1 k) (nf c2 (by rw [ed_ben h z]; exact y)))
    have next := ih (k + 1) c2 (by omega)
    rw [ed_cnt (by rw [ed_ben h z]; exact y)] at next
    exact nm_r (nI_1 _) (nm_r (nI_1 k) next)
theorem yw_place {post : Int32 → SY → Prop} {sy l wt qu cs : Nat → Int32} {n : Nat} (hl : ed_ok l) (hn : n ≤ 6) {w : Nat} (hw : w < 10) (H : ∀ cs', post (ed_pl l sy wt qu n w) (nI n, l, sy, wt, qu, cs')) : wpY_place post (nI n, l, sy, wt, qu, cs) (nI w) := by
  unfold wpY_place
  refine yw_isFound hl hn hw fun c1 => ed_gX (fun z => ?_) (fun z => ?_)
  · rw [ed_plt z] at H
    exact ⟨11, yw_place14 hl hn hw H 10 0 c1 rfl⟩
  · rw [ed_plf z] at H
    exact H c1
theorem yw_at2 {post : Int32 → SY → Prop} {sy l wt qu : Nat → Int32} {n : Nat} (hl : ed_ok l) (hn : n ≤ 6) {x : Int32} :
    ∀ d w cs, w + d = 10 → (∀ cs', post (ed_at (ed_ap l sy wt qu n x) d w) (nI n, l, sy, wt, qu, cs')) → wY_at_2 post x (d + 1) (nI w) (nI n) l sy wt qu cs := by
  intro d
  induction d with
  | zero =>
    intro w cs hk H
    have e : w = 10 := by omega
    subst e
    exact br_t ed_10 (H cs)
  | succ d ih =>
    intro w cs hk H
    refine br_f (ed_w10 (by omega)) (yw_isFound hl hn (by omega) fun c1 => ed_gX (fun z => ?_) (fun z => nm_r (nI_1 w) (ih (w + 1) c1 (by omega) ?_)))
    · refine yw_place hl hn (by omega) fun c2 => ?_
      rw [ed_plt z]
      refine br_c (fun h => ?_) (fun h => nm_r (nI_1 w) (ih (w + 1) c2 (by omega) ?_))
      · rw [ed_att (ed_apt z h)] at H; exact H c2
      · rw [ed_atf (ed_apn h)] at H; exact H
    · rw [ed_atf (ed_apf z)] at H; exact H
theorem yw_at {post : Int32 → SY → Prop} {sy l wt qu cs : Nat → Int32} {n : Nat} (hl : ed_ok l) (hn : n ≤ 6) {x : Int32} (H : ∀ cs', post (ed_at (ed_ap l sy wt qu n x) 10 0) (nI n, l, sy, wt, qu, cs')) : wpY_at post (nI n, l, sy, wt, qu, cs) x :=
  ⟨11, yw_at2 hl hn 10 0 cs rfl H⟩
theorem yw_type {post : Int32 → SY → Prop} {sy l wt qu cs : Nat → Int32} {n : Nat} (hl : ed_ok l) (hn : n < 6) {x : Int32} (h0 : ¬ x < 0) (h3 : x ≤ 3) (H : ∀ cs', post (nI (ed_cn (ed_fd l sy (upd qu n x) (n + 1)) 10)) (nI (n + 1), l, sy, wt, upd qu n x, cs')) : wpY_type post (nI n, l, sy, wt, qu, cs) x := by
  unfold wpY_type
  refine br_f h0 (br_t h3 (br_t (nI_lt (b := 6) hn (by decide)) ⟨vp_in_nI (by omega) (by omega), nm_r (e' := upd qu n x) (by rw [nI_clamp (by omega)]) (nm_r (nI_1 n) ?_)⟩))
  exact yw_count hl (n := n + 1) hn H
theorem yw_rub {post : Int32 → SY → Prop} {sy l wt qu cs : Nat → Int32} {n : Nat} (hn : n < 7) (H : post (qu n) (nI n, l, sy, wt, qu, cs)) : wpY_rub post (nI (n + 1), l, sy, wt, qu, cs) := by
  unfold wpY_rub
  refine br_f (nI_ne0 (by omega) (by omega)) (nm_r (nI_pred n) ⟨vp_in_nI hn (by omega), ?_⟩)
  rw [nI_clamp (by omega)]
  exact H
theorem ed_s4 : ∀ s, s < 4 → ¬ nI s < 0 ∧ nI s ≤ 3 := by decide
theorem yw_hints4 {post : Int32 → SY → Prop} {sy l wt qu : Nat → Int32} {n : Nat} (hl : ed_ok l) (hn : n < 6) (H : ∀ cs', post (ed_bx (ed_hb l sy qu n) 4) (nI n, l, sy, wt, ed_hq qu n 4, cs')) :
    ∀ d s cs, s + d = 4 → wY_hints_4 post (d + 1) (ed_bx (ed_hb l sy qu n) s) (nI s) (nI n) l sy wt (ed_hq qu n s) cs := by
  intro d
  induction d with
  | zero =>
    intro s cs hk
    have e : s = 4 := by omega
    subst e
    exact br_t (Int32.le_refl _) (H cs)
  | succ d ih =>
    intro s cs hk
    have hs := ed_s4 s (by omega)
    refine br_f (nI_ge (b := 4) (by omega) (by decide)) (br_f (nI_ge (b := 6) hn (by decide)) ?_)
    refine yw_type hl hn hs.1 hs.2 fun c1 => yw_found hl (n := n + 1) hn fun c2 => br_c (fun h => ?_) (fun h => ?_)
    · have z := (ed_bxcn _).mp h
      have next := ih (s + 1) c2 (by omega)
      rw [ed_bxf (ed_hbf z)] at next
      exact yw_rub (by omega) (nm_r (nI_1 s) next)
    · have z : 0 < ed_cn (ed_fd l sy (ed_hq qu n (s + 1)) (n + 1)) 10 := Nat.pos_of_ne_zero fun e => h ((ed_bxcn _).mpr e)
      have next := ih (s + 1) c2 (by omega)
      rw [ed_bxt (ed_hbt z)] at next
      exact yw_rub (by omega) (nm_r (nI_1 s) next)
theorem yw_hints {post : Int32 → SY → Prop} {sy l wt qu cs : Nat → Int32} {n : Nat} (hl : ed_ok l) (hn : n < 6) (H : ∀ cs', post (ed_bx (ed_hb l sy qu n) 4) (nI n, l, sy, wt, ed_hq qu n 4, cs')) : wpY_hints post (nI n, l, sy, wt, qu, cs) :=
  ⟨5, yw_hints4 hl hn H 4 0 cs rfl⟩
theorem yw_hintsF {post : Int32 → SY → Prop} {sy l wt qu cs : Nat → Int32} {n : Nat} (hn : n = 6) (H : post 0 (nI n, l, sy, wt, qu, cs)) : wpY_hints post (nI n, l, sy, wt, qu, cs) :=
  ⟨1, br_f (by decide) (br_t (by rw [hn]; decide) H)⟩
theorem yw_sharedL {post : Int32 → Prop} {sy l wt qu cs : Nat → Int32} {n : Nat} (hl : ed_ok l) {a b : Nat} (ha : a < 10) (hb : b < 10) (H : ∀ r, (∀ t, t ≤ r ↔ ed_S l sy a b t) → post (nI r)) :
    ∀ d i, i + d = 6 → i ≤ ed_tl l a → i ≤ ed_tl l b → (∀ t, t < i → sy (6 * a + t) = sy (6 * b + t)) → wY_shared_2 post (nI a) (nI b) (nI n) l sy wt qu cs (d + 1) (nI i) := by
  have hm := ed_ok2 hl b
  have hma := ed_ok2 hl a
  intro d
  induction d with
  | zero =>
    intro i hi h1 h2 h3
    refine ⟨vp_in_nI ha (by omega), pk_le (ed_tl l a) i (fun h => H i (ed_spec h1 h2 h3 (Or.inl h))) (fun h => ?_) (ed_la hl ha) rfl⟩
    exact absurd h (by omega)
  | succ d ih =>
    intro i hi h1 h2 h3
    refine ⟨vp_in_nI ha (by omega), pk_le (ed_tl l a) i (fun h => H i (ed_spec h1 h2 h3 (Or.inl h))) (fun h => ⟨vp_in_nI hb (by omega), pk_le (ed_tl l b) i (fun h => H i (ed_spec h1 h2 h3 (Or.inr (Or.inl h)))) (fun h' => ?_) (ed_la hl hb) rfl⟩) (ed_la hl ha) rfl⟩
    have v1 : vp_in ((6 : Int32) * nI a + nI i) 60 := by rw [ed_iy1]; exact vp_in_nI (by omega) (by omega)
    have v2 : vp_in ((6 : Int32) * nI b + nI i) 60 := by rw [ed_iy1]; exact vp_in_nI (by omega) (by omega)
    have e1 : sy ((6 : Int32) * nI a + nI i).toNatClampNeg = sy (6 * a + i) := by rw [ed_iy1, nI_clamp (by omega)]
    have e2 : sy ((6 : Int32) * nI b + nI i).toNatClampNeg = sy (6 * b + i) := by rw [ed_iy1, nI_clamp (by omega)]
    refine ⟨v1, v2, ?_⟩
    by_cases he : sy (6 * a + i) = sy (6 * b + i)
    · exact br_t (by rw [e1, e2]; exact he) (nm_r (nI_1 i) (ih (i + 1) (by omega) (by omega) (by omega) (lt_s h3 he)))
    · exact br_f (by rw [e1, e2]; exact he) (H i (ed_spec h1 h2 h3 (Or.inr (Or.inr he))))
theorem yw_shared {post : Int32 → Prop} {sy l wt qu cs : Nat → Int32} {n : Nat} (hl : ed_ok l) {a b : Nat} (ha : a < 10) (hb : b < 10) (H : ∀ r, (∀ t, t ≤ r ↔ ed_S l sy a b t) → post (nI r)) : wpY_shared post (nI n, l, sy, wt, qu, cs) (nI a) (nI b) :=
  ⟨7, yw_sharedL hl ha hb H 6 0 rfl (by omega) (by omega) lt_0⟩
theorem ed_bitT (b : Nat → Bool) {w : Nat} (hw : w < 10) (h : b w = true) : ((ed_bx b 10 >>> (nI w &&& 31)) &&& 1) = 1 := by rw [ed_bit b w hw, h]; rfl
theorem ed_bitF (b : Nat → Bool) {w : Nat} (hw : w < 10) (h : b w = false) : ¬ ((ed_bx b 10 >>> (nI w &&& 31)) &&& 1) = 1 := by rw [ed_bit b w hw, h]; decide
theorem yw_c58F {post : Int32 → SY → Prop} {J18 J27 : Int32 → Int32 → Prop} {sy l wt qu cs : Nat → Int32} {n : Nat} {x1 x2 x3 : Int32} {k : Nat} (H : J27 x2 (nI (k + 1))) : wY_common_58 post J18 J27 x1 x2 x3 (nI k) 0 (nI n) l sy wt qu cs :=
  br_t rfl (nm_r (nI_1 k) H)
theorem yw_c58T {post : Int32 → SY → Prop} {J18 J27 : Int32 → Int32 → Prop} {sy l wt qu cs : Nat → Int32} {n : Nat} (hl : ed_ok l) {x1 : Int32} {r v k : Nat} (hv : v < 10) (hk : k < 10) (hr : r ≤ 6) (H : ∀ s, s ≤ 6 → (∀ t, t ≤ s ↔ ed_S l sy v k t) → J27 (nI (min r s)) (nI (k + 1))) : wY_common_58 post J18 J27 x1 (nI r) (nI v) (nI k) 1 (nI n) l sy wt qu cs := by
  unfold wY_common_58
  refine br_f (by decide) (yw_shared hl hv hk fun s hs => ?_)
  have hs6 : s ≤ 6 := by
    have a := ((hs s).mp (Nat.le_refl s)).1
    have := ed_ok2 hl v
    omega
  exact yw_min rfl rfl (by omega) (by omega) (nm_r (nI_1 k) (H s hs6 hs))
theorem yw_c27 {post : Int32 → SY → Prop} {J18 : Int32 → Int32 → Prop} {sy l wt qu cs : Nat → Int32} {n : Nat} (hl : ed_ok l) (b : Nat → Bool) {n0 v : Nat} (hv : v < 10) (HJ : ∀ r, r ≤ 6 → ed_Y b l sy n0 (v + 1) 0 r → J18 (nI r) (nI (v + 1))) :
    ∀ d k r, k + d = 10 → r ≤ 6 → ed_Y b l sy n0 v k r → wY_common_27 post J18 (ed_bx b 10) (nI v) (nI n) l sy wt qu cs (d + 1) (nI r) (nI k) := by
  intro d
  induction d with
  | zero =>
    intro k r hk hr h
    have e : k = 10 := by omega
    subst e
    exact br_t ed_10 (nm_r (nI_1 v) (HJ r hr (ed_Y3 h)))
  | succ d ih =>
    intro k r hk hr h
    have hk10 : k < 10 := by omega
    refine br_f (ed_w10 hk10) ?_
    by_cases z : b v = true
    · refine br_t (ed_bitT b hv z) ?_
      by_cases y : b k = true
      · exact br_t (ed_bitT b hk10 y) (yw_c58T hl hv hk10 hr fun s hs6 hs => ih (k + 1) (min r s) (by omega) (by omega) (ed_Y2 hk10 z y hs h))
      · exact br_f (ed_bitF b hk10 (ed_ff y)) (yw_c58F (ih (k + 1) r (by omega) hr (ed_Y1 (fun q => y q.2) h)))
    · exact br_f (ed_bitF b hv (ed_ff z)) (yw_c58F (ih (k + 1) r (by omega) hr (ed_Y1 (fun q => z q.1) h)))
theorem yw_c18 {post : Int32 → SY → Prop} {sy l wt qu cs : Nat → Int32} {n : Nat} (hl : ed_ok l) (b : Nat → Bool) {n0 : Nat} (H : ∀ r, ed_Y b l sy n0 10 0 r → post (nI r) (nI n, l, sy, wt, qu, cs)) :
    ∀ d v r, v + d = 10 → r ≤ 6 → ed_Y b l sy n0 v 0 r → wY_common_18 post (ed_bx b 10) (nI n) l sy wt qu cs (d + 1) (nI r) (nI v) := by
  intro d
  induction d with
  | zero =>
    intro v r hv hr h
    have e : v = 10 := by omega
    subst e
    exact br_t ed_10 (H r h)
  | succ d ih =>
    intro v r hv hr h
    exact br_f (ed_w10 (by omega)) ⟨11, yw_c27 hl b (by omega) (fun r' hr' h' => ih (v + 1) r' (by omega) hr' h') 10 0 r rfl hr h⟩
theorem yw_common {post : Int32 → SY → Prop} {sy l wt qu cs : Nat → Int32} {n : Nat} (hl : ed_ok l) (hn : n ≤ 6) (H : ∀ cs' r, ed_cm (ed_fd l sy qu n) l sy r → post (nI r) (nI n, l, sy, wt, qu, cs')) : wpY_common post (nI n, l, sy, wt, qu, cs) := by
  unfold wpY_common
  refine yw_found hl hn fun c1 => br_c (fun h => ⟨11, ?_⟩) (fun h => ⟨11, ?_⟩)
  · have z := (ed_bx0 _ 10 (by omega)).mp h
    exact yw_c18 hl (ed_fd l sy qu n) (fun r hr => H c1 r (ed_Y4 z hr)) 10 0 0 rfl (by omega) ed_Y0
  · have z := fun q => h ((ed_bx0 _ 10 (by omega)).mpr q)
    exact yw_c18 hl (ed_fd l sy qu n) (fun r hr => H c1 r (ed_Y5 hl z hr)) 10 0 6 rfl (by omega) ed_Y0
