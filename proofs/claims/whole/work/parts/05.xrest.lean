/-! X: found, counts, bits, order, hints, common -/
theorem ed_gX {b : Bool} {A B : Prop} (ht : b = true → B) (hf : b = false → A) : (ed_bI b = 0 → A) ∧ (¬ ed_bI b = 0 → B) := by
  cases b
  · exact br_t rfl (hf rfl)
  · exact br_f (by decide) (ht rfl)
theorem xw_isFound {post : Int32 → SX → Prop} {ql : Int32} {sy l wt qu cs : Nat → Int32} (hl : ed_ok l) {n w : Nat} (hn : n ≤ 6) (hw : w < 10) (H : ∀ cs', post (ed_bI (ed_fd l sy qu n w)) (ql, sy, l, wt, qu, cs')) : wpX_isFound post (ql, sy, l, wt, qu, cs) (nI w) (nI n) := by
  have b1 := ed_tyle l sy qu n w
  have b2 := ed_fgle n
  unfold wpX_isFound
  refine xw_isWord hl hw (ed_gX (fun z => ?_) (fun z => ?_))
  · refine xw_leastCost hl hn hw fun cs' => xw_forgiven (by omega) (pk_lt (ed_fg n) (ed_ty l sy qu n w) (fun h => ?_) (fun h => ?_))
    · have g := H cs'; rw [ed_fdf (by omega)] at g; exact g
    · have g := H cs'; rw [ed_fdt (ed_wd1 z) h] at g; exact g
  · have g := H cs; rw [ed_fd0 (ed_wd0 z)] at g; exact g
theorem xw_isFoundN {post : Int32 → SX → Prop} {ql : Int32} {sy l wt qu cs : Nat → Int32} {x y : Int32} (h : ed_out x) (H : post 0 (ql, sy, l, wt, qu, cs)) : wpX_isFound post (ql, sy, l, wt, qu, cs) x y := by
  unfold wpX_isFound
  exact xw_isWordN h (br_t rfl H)
theorem xw_count4 {post : Int32 → SX → Prop} {ql : Int32} {sy l wt qu : Nat → Int32} (hl : ed_ok l) {n : Nat} (hn : n ≤ 6) (H : ∀ cs', post (nI (ed_cn (ed_fd l sy qu n) 10)) (ql, sy, l, wt, qu, cs')) :
    ∀ d k cs, k + d = 10 → wX_countFound_4 post (nI n) (d + 1) (nI (ed_cn (ed_fd l sy qu n) k)) (nI k) ql sy l wt qu cs := by
  intro d
  induction d with
  | zero =>
    intro k cs hk
    have e : k = 10 := by omega
    subst e
    exact br_t ed_10 (H cs)
  | succ d ih =>
    intro k cs hk
    refine br_f (ed_w10 (by omega)) (xw_isFound hl hn (by omega) fun c1 => ed_gX (fun z => ?_) (fun z => ?_))
    · have next := ih (k + 1) c1 (by omega)
      rw [ed_cnt z] at next
      exact nm_r (nI_1 _) (nm_r (nI_1 k) next)
    · have next := ih (k + 1) c1 (by omega)
      rw [ed_cnf z] at next
      exact nm_r (nI_1 k) next
theorem xw_countFound {post : Int32 → SX → Prop} {ql : Int32} {sy l wt qu cs : Nat → Int32} (hl : ed_ok l) {n : Nat} (hn : n ≤ 6) {x : Int32} (hx : x = nI n) (H : ∀ cs', post (nI (ed_cn (ed_fd l sy qu n) 10)) (ql, sy, l, wt, qu, cs')) : wpX_countFound post (ql, sy, l, wt, qu, cs) x := by
  subst hx
  exact ⟨11, xw_count4 hl hn H 10 0 cs rfl⟩
theorem xw_found4 {post : Int32 → SX → Prop} {sy l wt qu : Nat → Int32} {n : Nat} (hl : ed_ok l) (hn : n ≤ 6) (H : ∀ cs', post (ed_bx (ed_fd l sy qu n) 10) (nI n, sy, l, wt, qu, cs')) :
    ∀ d k cs, k + d = 10 → wX_found_4 post (d + 1) (ed_bx (ed_fd l sy qu n) k) (nI k) (nI n) sy l wt qu cs := by
  intro d
  induction d with
  | zero =>
    intro k cs hk
    have e : k = 10 := by omega
    subst e
    exact br_t ed_10 (H cs)
  | succ d ih =>
    intro k cs hk
    refine br_f (ed_w10 (by omega)) (xw_isFound hl hn (by omega) fun c1 => ed_gX (fun z => ?_) (fun z => ?_))
    · exact nm_r (ed_bxt z).symm (nm_r (nI_1 k) (ih (k + 1) c1 (by omega)))
    · exact nm_r (nI_1 k) (by have next := ih (k + 1) c1 (by omega); rw [ed_bxf z] at next; exact next)
theorem xw_found {post : Int32 → SX → Prop} {sy l wt qu cs : Nat → Int32} {n : Nat} (hl : ed_ok l) (hn : n ≤ 6) (H : ∀ cs', post (ed_bx (ed_fd l sy qu n) 10) (nI n, sy, l, wt, qu, cs')) : wpX_found post (nI n, sy, l, wt, qu, cs) :=
  ⟨11, xw_found4 hl hn H 10 0 cs rfl⟩
theorem xw_words4 {post : Int32 → Prop} {ql : Int32} {sy l wt qu cs : Nat → Int32} (hl : ed_ok l) (H : post (ed_bx (ed_wd l) 10)) :
    ∀ d k, k + d = 10 → wX_words_4 post ql sy l wt qu cs (d + 1) (ed_bx (ed_wd l) k) (nI k) := by
  intro d
  induction d with
  | zero =>
    intro k hk
    have e : k = 10 := by omega
    subst e
    exact br_t ed_10 H
  | succ d ih =>
    intro k hk
    refine br_f (ed_w10 (by omega)) (xw_isWord hl (by omega) (ed_gX (fun z => ?_) (fun z => ?_)))
    · exact nm_r (ed_bxt z).symm (nm_r (nI_1 k) (ih (k + 1) (by omega)))
    · exact nm_r (nI_1 k) (by have next := ih (k + 1) (by omega); rw [ed_bxf z] at next; exact next)
theorem xw_words {post : Int32 → Prop} {ql : Int32} {sy l wt qu cs : Nat → Int32} (hl : ed_ok l) (H : post (ed_bx (ed_wd l) 10)) : wpX_words post (ql, sy, l, wt, qu, cs) :=
  ⟨11, xw_words4 hl H 10 0 rfl⟩
theorem xw_isQuery17 {post : Int32 → Prop} {sy l wt qu cs : Nat → Int32} {n : Nat} (hn : n ≤ 6) {w : Nat} (hw : w < 10) (hL : ed_tl l w = n) (H : post (ed_bI (ed_ex l sy qu n w))) :
    ∀ d i, i + d = n → (∀ t, t < i → sy (6 * w + t) = qu t) → wX_isQuery_17 post (nI w) (nI n) sy l wt qu cs (d + 1) (nI i) := by
  intro d
  induction d with
  | zero =>
    intro i hi h
    have e : i = n := by omega
    subst e
    rw [ed_ext hL h] at H
    exact br_t (Int32.le_refl _) H
  | succ d ih =>
    intro i hi h
    have e1 : sy (nI w * (6 : Int32) + nI i).toNatClampNeg = sy (6 * w + i) := by rw [ed_z1 hw (by omega)]
    have e2 : qu (nI i).toNatClampNeg = qu i := ed_cI (by omega)
    refine br_f (nI_ge (by omega) (by omega)) ⟨ed_z1i hw (by omega), vp_in_nI (by omega) (by omega), ?_⟩
    by_cases he : sy (6 * w + i) = qu i
    · exact br_t (by rw [e1, e2]; exact he) (nm_r (nI_1 i) (ih (i + 1) (by omega) (lt_s h he)))
    · rw [ed_exi i (by omega) he] at H
      exact br_f (by rw [e1, e2]; exact he) H
theorem xw_isQuery {post : Int32 → Prop} {sy l wt qu cs : Nat → Int32} {n : Nat} (hl : ed_ok l) (hn : n ≤ 6) {w : Nat} (hw : w < 10) (H : post (ed_bI (ed_ex l sy qu n w))) : wpX_isQuery post (nI n, sy, l, wt, qu, cs) (nI w) := by
  have hm := ed_ok2 hl w
  refine ⟨vp_in_nI hw (by omega), pk_eq (ed_tl l w) n (fun h => ⟨n + 1, xw_isQuery17 hn hw h H n 0 (by omega) lt_0⟩) (fun h => ?_) (ed_la hl hw) rfl⟩
  rw [ed_exl h] at H
  exact H
theorem ed_bInj {a b : Bool} (h : ed_bI a = ed_bI b) : a = b := by cases a <;> cases b <;> first | rfl | exact absurd h (by decide)
theorem xw_goesBefore {post : Int32 → SX → Prop} {sy l wt qu cs : Nat → Int32} {n : Nat} (hl : ed_ok l) (hn : n ≤ 6) {a b : Nat} (ha : a < 10) (hb : b < 10) (H : ∀ cs', post (ed_bI (ed_gb l sy wt qu n a b)) (nI n, sy, l, wt, qu, cs')) : wpX_goesBefore post (nI n, sy, l, wt, qu, cs) (nI a) (nI b) := by
  have t1 := ed_tyle l sy qu n a
  have t2 := ed_tyle l sy qu n b
  have m1 := ed_ok2 hl a
  have m2 := ed_ok2 hl b
  have via : vp_in (nI a) 10 := vp_in_nI ha (by omega)
  have vib : vp_in (nI b) 10 := vp_in_nI hb (by omega)
  have ea : wt (nI a).toNatClampNeg = wt a := ed_cI (by omega)
  have eb : wt (nI b).toNatClampNeg = wt b := ed_cI (by omega)
  unfold ed_gb at H
  unfold wpX_goesBefore
  refine xw_leastCost hl hn ha (fun c1 => xw_leastCost hl hn hb (fun c2 => pk_eq (ed_ty l sy qu n a) (ed_ty l sy qu n b) (fun h1 => ?_) (fun h1 => ?_)))
  · refine xw_isQuery hl hn ha (xw_isQuery hl hn hb ?_)
    rw [if_pos h1] at H
    by_cases h2 : ed_ex l sy qu n a = ed_ex l sy qu n b
    · rw [if_pos h2] at H
      refine br_t (by rw [h2]) ⟨via, vib, pk_eq (ed_tl l a) (ed_tl l b) (fun h3 => ⟨via, vib, ?_⟩) (fun h3 => ⟨via, vib, pk_le (ed_tl l b) (ed_tl l a) (fun h4 => ?_) (fun h4 => ?_) (ed_la hl hb) (ed_la hl ha)⟩) (ed_la hl ha) (ed_la hl hb)⟩
      · rw [if_pos h3] at H
        by_cases h4 : wt a = wt b
        · rw [if_pos h4] at H
          refine br_t (by rw [ea, eb]; exact h4) (pk_le b a (fun h5 => ?_) (fun h5 => ?_))
          · have g := H c2; rw [decide_eq_false (by omega)] at g; exact g
          · have g := H c2; rw [decide_eq_true (by omega)] at g; exact g
        · rw [if_neg h4] at H
          refine br_f (by rw [ea, eb]; exact h4) ⟨via, vib, ?_⟩
          by_cases h5 : wt a ≤ wt b
          · have g := H c2; rw [decide_eq_false (Int32.not_lt.mpr h5)] at g
            exact br_t (by rw [ea, eb]; exact h5) g
          · have g := H c2; rw [decide_eq_true (Int32.not_le.mp h5)] at g
            exact br_f (by rw [ea, eb]; exact h5) g
      · have g := H c2; rw [if_neg h3, decide_eq_false (by omega)] at g; exact g
      · have g := H c2; rw [if_neg h3, decide_eq_true (by omega)] at g; exact g
    · rw [if_neg h2] at H
      exact br_f (fun z => h2 (ed_bInj z)) ⟨ed_nb _, H c2⟩
  · rw [if_neg h1] at H
    refine pk_le (ed_ty l sy qu n b) (ed_ty l sy qu n a) (fun h4 => ?_) (fun h4 => ?_)
    · have g := H c2; rw [decide_eq_false (by omega)] at g; exact g
    · have g := H c2; rw [decide_eq_true (by omega)] at g; exact g
theorem xw_countB4 {post : Int32 → SX → Prop} {sy l wt qu : Nat → Int32} {n : Nat} (hl : ed_ok l) (hn : n ≤ 6) {w : Nat} (hw : w < 10) (H : ∀ cs', post (nI (ed_cb l sy wt qu n w)) (nI n, sy, l, wt, qu, cs')) :
    ∀ d k cs, k + d = 10 → wX_countBefore_4 post (nI w) (d + 1) (nI (ed_cn (ed_be l sy wt qu n w) k)) (nI k) (nI n) sy l wt qu cs := by
  intro d
  induction d with
  | zero =>
    intro k cs hk
    have e : k = 10 := by omega
    subst e
    exact br_t ed_10 (H cs)
  | succ d ih =>
    intro k cs hk
    have nf : ∀ c1, ed_be l sy wt qu n w k = false → wX_countBefore_4 post (nI w) (d + 1) (nI (ed_cn (ed_be l sy wt qu n w) k)) (nI (k + 1)) (nI n) sy l wt qu c1 := by
      intro c1 z
      have next := ih (k + 1) c1 (by omega)
      rw [ed_cnf z] at next
      exact next
    refine br_f (ed_w10 (by omega)) (pk_eq k w (fun h => nm_r (nI_1 k) (nf cs (ed_beq h))) (fun h => ?_))
    refine xw_isFound hl hn (by omega) fun c1 => ed_gX (fun z => ?_) (fun z => nm_r (nI_1 k) (nf c1 (ed_bef z)))
    refine xw_goesBefore hl hn (by omega) hw fun c2 => ed_gX (fun y => ?_) (fun y => nm_r (nI_1 k) (nf c2 (by rw [ed_ben h z]; exact y)))
    have next := ih (k + 1) c2 (by omega)
    rw [ed_cnt (by rw [ed_ben h z]; exact y)] at next
    exact nm_r (nI_1 _) (nm_r (nI_1 k) next)
theorem xw_countBefore {post : Int32 → SX → Prop} {sy l wt qu cs : Nat → Int32} {n : Nat} (hl : ed_ok l) (hn : n ≤ 6) {w : Nat} (hw : w < 10) (H : ∀ cs', post (nI (ed_cb l sy wt qu n w)) (nI n, sy, l, wt, qu, cs')) : wpX_countBefore post (nI n, sy, l, wt, qu, cs) (nI w) :=
  ⟨11, xw_countB4 hl hn hw H 10 0 cs rfl⟩
def ed_pl (l sy wt qu : Nat → Int32) (n w : Nat) : Int32 := if ed_fd l sy qu n w = true then nI (ed_cb l sy wt qu n w) else -1
theorem ed_plt {l sy wt qu : Nat → Int32} {n w : Nat} (h : ed_fd l sy qu n w = true) : ed_pl l sy wt qu n w = nI (ed_cb l sy wt qu n w) := if_pos h
theorem ed_plf {l sy wt qu : Nat → Int32} {n w : Nat} (h : ed_fd l sy qu n w = false) : ed_pl l sy wt qu n w = -1 := if_neg (by rw [h]; decide)
theorem xw_place {post : Int32 → SX → Prop} {sy l wt qu cs : Nat → Int32} {n : Nat} (hl : ed_ok l) (hn : n ≤ 6) {w : Nat} (hw : w < 10) (H : ∀ cs', post (ed_pl l sy wt qu n w) (nI n, sy, l, wt, qu, cs')) : wpX_place post (nI n, sy, l, wt, qu, cs) (nI w) := by
  unfold wpX_place
  refine xw_isFound hl hn hw fun c1 => ed_gX (fun z => ?_) (fun z => ?_)
  · rw [ed_plt z] at H
    exact xw_countBefore hl hn hw H
  · rw [ed_plf z] at H
    exact H c1
def ed_ap (l sy wt qu : Nat → Int32) (n : Nat) (x : Int32) (w : Nat) : Bool := ed_fd l sy qu n w && decide (nI (ed_cb l sy wt qu n w) = x)
theorem ed_apt {l sy wt qu : Nat → Int32} {n w : Nat} {x : Int32} (h : ed_fd l sy qu n w = true) (h2 : nI (ed_cb l sy wt qu n w) = x) : ed_ap l sy wt qu n x w = true := by
  unfold ed_ap
  rw [h, decide_eq_true h2]
  rfl
theorem ed_apn {l sy wt qu : Nat → Int32} {n w : Nat} {x : Int32} (h2 : ¬ nI (ed_cb l sy wt qu n w) = x) : ed_ap l sy wt qu n x w = false := by
  unfold ed_ap
  rw [decide_eq_false h2, Bool.and_false]
theorem ed_apf {l sy wt qu : Nat → Int32} {n w : Nat} {x : Int32} (h : ed_fd l sy qu n w = false) : ed_ap l sy wt qu n x w = false := by
  unfold ed_ap
  rw [h, Bool.false_and]
theorem xw_at2 {post : Int32 → SX → Prop} {sy l wt qu : Nat → Int32} {n : Nat} (hl : ed_ok l) (hn : n ≤ 6) {x : Int32} :
    ∀ d w cs, w + d = 10 → (∀ cs', post (ed_at (ed_ap l sy wt qu n x) d w) (nI n, sy, l, wt, qu, cs')) → wX_at_2 post x (d + 1) (nI w) (nI n) sy l wt qu cs := by
  intro d
  induction d with
  | zero =>
    intro w cs hk H
    have e : w = 10 := by omega
    subst e
    exact br_t ed_10 (H cs)
  | succ d ih =>
    intro w cs hk H
    refine br_f (ed_w10 (by omega)) (xw_isFound hl hn (by omega) fun c1 => ed_gX (fun z => ?_) (fun z => nm_r (nI_1 w) (ih (w + 1) c1 (by omega) ?_)))
    · refine xw_countBefore hl hn (by omega) fun c2 => br_c (fun h => ?_) (fun h => nm_r (nI_1 w) (ih (w + 1) c2 (by omega) ?_))
      · rw [ed_att (ed_apt z h)] at H; exact H c2
      · rw [ed_atf (ed_apn h)] at H; exact H
    · rw [ed_atf (ed_apf z)] at H; exact H
theorem xw_at {post : Int32 → SX → Prop} {sy l wt qu cs : Nat → Int32} {n : Nat} (hl : ed_ok l) (hn : n ≤ 6) {x : Int32} (H : ∀ cs', post (ed_at (ed_ap l sy wt qu n x) 10 0) (nI n, sy, l, wt, qu, cs')) : wpX_at post (nI n, sy, l, wt, qu, cs) x :=
  ⟨11, xw_at2 hl hn 10 0 cs rfl H⟩
theorem ed_hbt {l sy qu : Nat → Int32} {n s : Nat} (h : 0 < ed_cn (ed_fd l sy (ed_hq qu n (s + 1)) (n + 1)) 10) : ed_hb l sy qu n s = true := decide_eq_true h
theorem ed_hbf {l sy qu : Nat → Int32} {n s : Nat} (h : ed_cn (ed_fd l sy (ed_hq qu n (s + 1)) (n + 1)) 10 = 0) : ed_hb l sy qu n s = false := decide_eq_false (by omega)
theorem xw_hints15 {post : Int32 → SX → Prop} {sy l wt qu : Nat → Int32} {n : Nat} (hl : ed_ok l) (hn : n < 6) (H : ∀ cs', post (ed_bx (ed_hb l sy qu n) 4) (nI n, sy, l, wt, ed_hq qu n 4, cs')) :
    ∀ d s cs, s + d = 4 → wX_hints_15 post (d + 1) (ed_bx (ed_hb l sy qu n) s) (nI s) (nI n) sy l wt (ed_hq qu n s) cs := by
  intro d
  induction d with
  | zero =>
    intro s cs hk
    have e : s = 4 := by omega
    subst e
    exact br_t (Int32.le_refl _) (H cs)
  | succ d ih =>
    intro s cs hk
    have bc := ed_cnle (ed_fd l sy (ed_hq qu n (s + 1)) (n + 1)) 10
    refine br_f (nI_ge (b := 4) (by omega) (by decide)) ⟨vp_in_nI hn (by omega), nm_r (e' := ed_hq qu n (s + 1)) (by rw [nI_clamp (by omega)]; rfl) ?_⟩
    refine xw_countFound hl (n := n + 1) hn (nI_1 n) fun c1 => pk_le (ed_cn (ed_fd l sy (ed_hq qu n (s + 1)) (n + 1)) 10) 0 (fun h => ?_) (fun h => ?_)
    · have next := ih (s + 1) c1 (by omega)
      rw [ed_bxf (ed_hbf (by omega))] at next
      exact nm_r (nI_1 s) next
    · exact nm_r (ed_bxt (ed_hbt h)).symm (nm_r (nI_1 s) (ih (s + 1) c1 (by omega)))
theorem xw_hints {post : Int32 → SX → Prop} {sy l wt qu cs : Nat → Int32} {n : Nat} (hl : ed_ok l) (hn : n < 6) (H : ∀ cs', post (ed_bx (ed_hb l sy qu n) 4) (nI n, sy, l, wt, ed_hq qu n 4, cs')) : wpX_hints post (nI n, sy, l, wt, qu, cs) := by
  unfold wpX_hints
  exact br_t (nI_lt (b := 6) hn (by decide)) ⟨5, xw_hints15 hl hn H 4 0 cs rfl⟩
theorem xw_hintsF {post : Int32 → SX → Prop} {sy l wt qu cs : Nat → Int32} {n : Nat} (hn : n = 6) (H : post 0 (nI n, sy, l, wt, qu, cs)) : wpX_hints post (nI n, sy, l, wt, qu, cs) := by
  unfold wpX_hints
  exact br_f (by rw [hn]; decide) H
theorem ed_spec {P : Nat → Prop} {s m i : Nat} (h1 : i ≤ s) (h2 : i ≤ m) (h3 : ∀ t, t < i → P t) (h4 : s ≤ i ∨ m ≤ i ∨ ¬ P i) : ∀ t, t ≤ i ↔ (t ≤ s ∧ t ≤ m ∧ ∀ k, k < t → P k) := by
  intro t
  constructor
  · intro h
    exact ⟨by omega, by omega, fun k hk => h3 k (by omega)⟩
  · intro ⟨a, b, c⟩
    rcases h4 with h4 | h4 | h4
    · omega
    · omega
    · by_cases e : t ≤ i
      · exact e
      · exact absurd (c i (by omega)) h4
theorem xw_sharedL {post : Int32 → Prop} {ql : Int32} {sy l wt qu cs : Nat → Int32} (hl : ed_ok l) {a b s : Nat} (ha : a < 10) (hb : b < 10) (hs : s ≤ 6) (H : ∀ r, (∀ t, t ≤ r ↔ (t ≤ s ∧ t ≤ ed_tl l b ∧ ∀ i, i < t → sy (6 * a + i) = sy (6 * b + i))) → post (nI r)) :
    ∀ d i, i + d = 6 → i ≤ s → i ≤ ed_tl l b → (∀ t, t < i → sy (6 * a + t) = sy (6 * b + t)) → wX_sharedBeginning_3 post (nI a) (nI b) (nI s) ql sy l wt qu cs (d + 1) (nI i) := by
  have hm := ed_ok2 hl b
  intro d
  induction d with
  | zero =>
    intro i hi h1 h2 h3
    refine pk_le s i (fun h => H i (ed_spec h1 h2 h3 (Or.inl h))) (fun h => ⟨vp_in_nI hb (by omega), pk_le (ed_tl l b) i (fun h => H i (ed_spec h1 h2 h3 (Or.inr (Or.inl h)))) (fun h => ?_) (ed_la hl hb) rfl⟩)
    exact absurd h (by omega)
  | succ d ih =>
    intro i hi h1 h2 h3
    refine pk_le s i (fun h => H i (ed_spec h1 h2 h3 (Or.inl h))) (fun h => ⟨vp_in_nI hb (by omega), pk_le (ed_tl l b) i (fun h => H i (ed_spec h1 h2 h3 (Or.inr (Or.inl h)))) (fun h' => ⟨ed_z1i ha (by omega), ed_z1i hb (by omega), ?_⟩) (ed_la hl hb) rfl⟩)
    have e1 : sy (nI a * (6 : Int32) + nI i).toNatClampNeg = sy (6 * a + i) := by rw [ed_z1 ha (by omega)]
    have e2 : sy (nI b * (6 : Int32) + nI i).toNatClampNeg = sy (6 * b + i) := by rw [ed_z1 hb (by omega)]
    by_cases he : sy (6 * a + i) = sy (6 * b + i)
    · exact br_t (by rw [e1, e2]; exact he) (nm_r (nI_1 i) (ih (i + 1) (by omega) (by omega) (by omega) (lt_s h3 he)))
    · exact br_f (by rw [e1, e2]; exact he) (H i (ed_spec h1 h2 h3 (Or.inr (Or.inr he))))
theorem xw_shared {post : Int32 → Prop} {ql : Int32} {sy l wt qu cs : Nat → Int32} (hl : ed_ok l) {a b s : Nat} (ha : a < 10) (hb : b < 10) (hs : s ≤ 6) (H : ∀ r, (∀ t, t ≤ r ↔ (t ≤ s ∧ t ≤ ed_tl l b ∧ ∀ i, i < t → sy (6 * a + i) = sy (6 * b + i))) → post (nI r)) : wpX_sharedBeginning post (ql, sy, l, wt, qu, cs) (nI a) (nI b) (nI s) :=
  ⟨7, xw_sharedL hl ha hb hs H 6 0 rfl (by omega) (by omega) lt_0⟩
theorem ed_Xle {b : Nat → Bool} {l sy : Nat → Int32} (hl : ed_ok l) {w f sN : Nat} (h : ed_X b l sy w f sN) : sN ≤ 6 := by
  have a := (h.2.2 sN).mp (Nat.le_refl _) f h.1 h.2.1
  have := a.1
  have := ed_ok2 hl f
  omega
theorem ed_nm1 {f : Nat} (hf : f < 10) : ¬ nI f = -1 := by
  intro e
  have h := nI_pos (n := f) (by omega)
  rw [e] at h
  exact h (by decide)
theorem xw_common6 {post : Int32 → SX → Prop} {sy l wt qu : Nat → Int32} {n : Nat} (hl : ed_ok l) (hn : n ≤ 6) (H : ∀ cs' r, ed_cm (ed_fd l sy qu n) l sy r → post (nI r) (nI n, sy, l, wt, qu, cs')) :
    ∀ d k x1 x2 cs, k + d = 10 → ((x1 = -1 ∧ x2 = nI 0 ∧ ∀ v, v < k → ed_fd l sy qu n v = false) ∨ ∃ f s, ed_X (ed_fd l sy qu n) l sy k f s ∧ x1 = nI f ∧ x2 = nI s) → wX_common_6 post (d + 1) x1 x2 (nI k) (nI n) sy l wt qu cs := by
  intro d
  induction d with
  | zero =>
    intro k x1 x2 cs hk h
    have e : k = 10 := by omega
    subst e
    rcases h with ⟨_, e2, h⟩ | ⟨f, s, h, _, e2⟩
    · rw [e2]; exact br_t ed_10 (H cs 0 (ed_X5 h))
    · rw [e2]; exact br_t ed_10 (H cs s (ed_X4 h))
  | succ d ih =>
    intro k x1 x2 cs hk h
    have hk10 : k < 10 := by omega
    refine br_f (ed_w10 hk10) (xw_isFound hl hn hk10 fun c1 => ed_gX (fun z => ?_) (fun z => nm_r (nI_1 k) (ih (k + 1) x1 x2 c1 (by omega) ?_)))
    · rcases h with ⟨e1, e2, h⟩ | ⟨f, s, h, e1, e2⟩
      · exact br_t e1 ⟨vp_in_nI hk10 (by omega), nm_r (ed_la hl hk10) (nm_r (nI_1 k) (ih (k + 1) _ _ c1 (by omega) (Or.inr ⟨k, ed_tl l k, ed_X1 z h, rfl, rfl⟩)))⟩
      · subst e1 e2
        have hf : f < 10 := by have := h.1; omega
        exact br_f (ed_nm1 hf) (xw_shared hl hf hk10 (ed_Xle hl h) fun r hr => nm_r (nI_1 k) (ih (k + 1) _ _ c1 (by omega) (Or.inr ⟨f, r, ed_X3 z h hr, rfl, rfl⟩)))
    · rcases h with ⟨e1, e2, h⟩ | ⟨f, s, h, e1, e2⟩
      · exact Or.inl ⟨e1, e2, lt_s h z⟩
      · exact Or.inr ⟨f, s, ed_X2 z h, e1, e2⟩
theorem xw_common {post : Int32 → SX → Prop} {sy l wt qu cs : Nat → Int32} {n : Nat} (hl : ed_ok l) (hn : n ≤ 6) (H : ∀ cs' r, ed_cm (ed_fd l sy qu n) l sy r → post (nI r) (nI n, sy, l, wt, qu, cs')) : wpX_common post (nI n, sy, l, wt, qu, cs) :=
  ⟨11, xw_common6 hl hn H 10 0 (-1) 0 cs rfl (Or.inl ⟨rfl, rfl, lt_0⟩)⟩
