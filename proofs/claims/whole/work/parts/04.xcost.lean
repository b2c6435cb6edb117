/-! X: word, forgiven, the costs in place -/
theorem ed_cs3 (s : Int32) : s < 0 ∨ (¬ s < 0 ∧ 4 ≤ s ∧ 3 < s ∧ ¬ s ≤ 3) ∨ (¬ s < 0 ∧ ¬ 4 ≤ s ∧ ¬ 3 < s ∧ s ≤ 3) := by
  have e0 : (0 : Int32).toInt = 0 := by decide
  have e3 : (3 : Int32).toInt = 3 := by decide
  have e4 : (4 : Int32).toInt = 4 := by decide
  simp only [Int32.lt_iff_toInt_lt, Int32.le_iff_toInt_le, e0, e3, e4]
  omega
theorem ed_cs9 (s : Int32) : s < 0 ∨ (¬ s < 0 ∧ 9 < s ∧ ¬ s ≤ 9) ∨ (¬ s < 0 ∧ ¬ 9 < s ∧ s ≤ 9) := by
  have e0 : (0 : Int32).toInt = 0 := by decide
  have e9 : (9 : Int32).toInt = 9 := by decide
  simp only [Int32.lt_iff_toInt_lt, Int32.le_iff_toInt_le, e0, e9]
  omega
def ed_out (x : Int32) : Prop := x < 0 ∨ (¬ x < 0 ∧ 10 ≤ x)
theorem ed_cw (x : Int32) : ed_out x ∨ ∃ j : Nat, j < 10 ∧ x = nI j := by
  by_cases h : x < 0
  · exact Or.inl (Or.inl h)
  · rcases pk_ix x (n := 10) (by decide) with h1 | h1 | h1
    · exact absurd h1 h
    · exact Or.inl (Or.inr ⟨h, h1⟩)
    · exact Or.inr h1
theorem ed_la {l : Nat → Int32} (hl : ed_ok l) {w : Nat} (hw : w < 10) : l (nI w).toNatClampNeg = nI (ed_tl l w) := by
  rw [nI_clamp (by omega)]
  exact ed_ok1 hl w
theorem ed_w10 {w : Nat} (hw : w < 10) : ¬ (10 : Int32) ≤ nI w := nI_ge (b := 10) hw (by decide)
theorem ed_10 : (10 : Int32) ≤ nI 10 := nI_le (Nat.le_refl 10) (by decide)
theorem xw_isWord {post : Int32 → Prop} {ql : Int32} {sy l wt qu cs : Nat → Int32} (hl : ed_ok l) {w : Nat} (hw : w < 10) (H : post (ed_bI (ed_wd l w))) : wpX_isWord post (ql, sy, l, wt, qu, cs) (nI w) := by
  have h0 : ¬ nI w < 0 := nI_pos (by omega)
  have e := ed_la hl hw
  have hm := ed_ok2 hl w
  by_cases z : ed_tl l w = 0
  · rw [ed_wdf z] at H
    exact br_f h0 (br_f (ed_w10 hw) ⟨vp_in_nI hw (by omega), br_t (by rw [e, z]; exact Int32.le_refl _) H⟩)
  · rw [ed_wdt (by omega)] at H
    exact br_f h0 (br_f (ed_w10 hw) ⟨vp_in_nI hw (by omega), br_f (by rw [e]; exact nI_nle (by omega) (by omega)) H⟩)
theorem xw_isWordN {post : Int32 → Prop} {ql : Int32} {sy l wt qu cs : Nat → Int32} {x : Int32} (h : ed_out x) (H : post 0) : wpX_isWord post (ql, sy, l, wt, qu, cs) x := by
  rcases h with h | ⟨h, h1⟩
  · exact br_t h H
  · exact br_f h (br_t h1 H)
theorem xw_forgiven {post : Int32 → Prop} {n : Nat} (hn : n < 2 ^ 31) (H : post (nI (ed_fg n))) : wpX_forgiven post (nI n) := by
  unfold ed_fg at H
  refine pk_le 3 n (fun h3 => pk_le 5 n (fun h5 => ?_) (fun h5 => ?_)) (fun h3 => ?_)
  · rw [if_neg (by omega), if_neg (by omega)] at H; exact H
  · rw [if_neg (by omega), if_pos (by omega)] at H; exact H
  · rw [if_pos (by omega)] at H; exact H
theorem ed_z2 {w j : Nat} (hw : w < 10) (hj : j < 6) : ((nI w * (6 : Int32) + nI (j + 1)) - 1).toNatClampNeg = 6 * w + j := by
  rw [ed_iz2, nI_clamp (by omega)]
theorem ed_z2i {w j : Nat} (hw : w < 10) (hj : j < 6) : vp_in ((nI w * (6 : Int32) + nI (j + 1)) - 1) 60 := by
  rw [ed_iz2]
  exact vp_in_nI (by omega) (by omega)
theorem ed_z1 {w j : Nat} (hw : w < 10) (hj : j < 6) : (nI w * (6 : Int32) + nI j).toNatClampNeg = 6 * w + j := by
  rw [ed_iz1, nI_clamp (by omega)]
theorem ed_z1i {w j : Nat} (hw : w < 10) (hj : j < 6) : vp_in (nI w * (6 : Int32) + nI j) 60 := by
  rw [ed_iz1]
  exact vp_in_nI (by omega) (by omega)
theorem ed_cI {f : Nat → Int32} {j : Nat} (h : j < 2 ^ 31) : f (nI j).toNatClampNeg = f j := by rw [nI_clamp h]
theorem xw_deal135 {post : SX → Prop} {J : Int32 → Int32 → (Nat → Int32) → (Nat → Int32) → (Nat → Int32) → (Nat → Int32) → (Nat → Int32) → Prop} {ql : Int32} {sy l wt qu cs : Nat → Int32} {x1 x2 x3 x4 : Int32} {j P Z v : Nat} (hj : j + 1 < 7) (hP : P < 2 ^ 31) (hZ : Z < 2 ^ 31) (hv : v = min P Z)
    (HJ : J x4 (nI (j + 2)) sy l wt qu (upd cs (j + 1) (nI v))) : wX_dealWith_135 post J x1 x2 x3 x4 (nI (j + 1)) (nI P) (nI Z) ql sy l wt qu cs := by
  have hi : vp_in (nI (j + 1)) 7 := vp_in_nI hj (by omega)
  refine pk_le Z P (fun h => ⟨hi, nm_r ?_ (nm_r (nI_1 (j + 1)) HJ)⟩) (fun h => ⟨hi, nm_r ?_ (nm_r (nI_1 (j + 1)) HJ)⟩)
  · rw [nI_clamp (by omega), show v = Z by omega]
  · rw [nI_clamp (by omega), show v = P by omega]
theorem xw_deal86 {post : SX → Prop} {J : Int32 → Int32 → (Nat → Int32) → (Nat → Int32) → (Nat → Int32) → (Nat → Int32) → (Nat → Int32) → Prop} {ql : Int32} {sy l wt qu cs : Nat → Int32} {x1 x2 : Int32} {j K A U c v : Nat} (hj : j + 1 < 7) (hA : cs j = nI A) (hU : cs (j + 1) = nI U) (hK : K < 1000) (hA2 : A < 1000) (hU2 : U < 1000) (hc : c < 1000) (hv : v = min (A + 1) (min K (U + c)))
    (HJ : J (nI U) (nI (j + 2)) sy l wt qu (upd cs (j + 1) (nI v))) : wX_dealWith_86 post J x1 x2 (nI c) (nI (j + 1)) (nI K) ql sy l wt qu cs := by
  have hi : vp_in (nI (j + 1)) 7 := vp_in_nI hj (by omega)
  have hi2 : vp_in (nI (j + 1) - 1) 7 := by rw [nI_pred]; exact vp_in_nI (by omega) (by omega)
  refine ⟨hi, nm_r (e' := nI (U + c)) ?_ ⟨hi2, nm_r (e' := nI (A + 1)) ?_ ⟨hi, nm_r (e' := nI U) ?_ (pk_le (U + c) K (fun h => ?_) (fun h => ?_))⟩⟩⟩
  · rw [nI_clamp (by omega), hU, nI_add]
  · rw [nI_pred, nI_clamp (by omega), hA, nI_1]
  · rw [nI_clamp (by omega), hU]
  · exact xw_deal135 hj (by omega) (by omega) (by omega) HJ
  · exact xw_deal135 hj (by omega) (by omega) (by omega) HJ
theorem xw_dealL {post : SX → Prop} {ql : Int32} {sy l wt qu : Nat → Int32} (hl : ed_ok l) {i w : Nat} (hi : i < 6) (hw : w < 10)
    (H : ∀ cs', (∀ t, t ≤ ed_tl l w → cs' t = nI (ed_c qu (fun j => sy (6 * w + j)) (i + 1) t)) → post (ql, sy, l, wt, qu, cs')) :
    ∀ d j cs, j + d = ed_tl l w → ed_E qu (fun j => sy (6 * w + j)) (ed_tl l w) i (j + 1) cs → wX_dealWith_31 post (nI i) (nI w) (nI (ed_ch i)) ql (d + 1) (nI (ed_c qu (fun j => sy (6 * w + j)) i j)) (nI (j + 1)) sy l wt qu cs := by
  have hm := ed_ok2 hl w
  have hiw : vp_in (nI w) 10 := vp_in_nI hw (by omega)
  intro d
  induction d with
  | zero =>
    intro j cs hj hE
    have e : ed_tl l w = j := by omega
    refine ⟨hiw, br_t ?_ (H cs (ed_En (by rw [e]; rw [e] at hE; exact hE)))⟩
    rw [ed_la hl hw]
    exact nI_lt (by omega) (by omega)
  | succ d ih =>
    intro j cs hj hE
    have hA := hE.1 j (by omega)
    have hU := hE.2 (j + 1) (Nat.le_refl _) (by omega)
    have bA := ed_cle qu (fun j => sy (6 * w + j)) (i + 1) j
    have bU := ed_cle qu (fun j => sy (6 * w + j)) i (j + 1)
    have bS := ed_cle qu (fun j => sy (6 * w + j)) i j
    have bc := ed_ch2 i
    have hn : ¬ l (nI w).toNatClampNeg < nI (j + 1) := by rw [ed_la hl hw]; exact nI_nlt (by omega) (by omega)
    have eq1 : qu (nI i).toNatClampNeg = qu i := ed_cI (by omega)
    have es1 : sy ((nI w * (6 : Int32) + nI (j + 1)) - 1).toNatClampNeg = sy (6 * w + j) := by rw [ed_z2 hw (by omega)]
    have next := ih (j + 1) _ (by omega) (ed_Es hE)
    refine ⟨hiw, br_f hn ⟨vp_in_nI hi (by omega), ed_z2i hw (by omega), ?_⟩⟩
    by_cases he : qu i = sy (6 * w + j)
    · refine br_t (by rw [eq1, es1]; exact he) (br_f (by decide) ?_)
      exact xw_deal86 (by omega) hA hU (by omega) (by omega) (by omega) (by omega) (ed_s1 he) next
    · refine br_f (by rw [eq1, es1]; exact he) (br_t rfl ?_)
      rw [nI_add]
      exact xw_deal86 (by omega) hA hU (by omega) (by omega) (by omega) (by omega) (ed_s2 he) next
theorem xw_deal9 {post : SX → Prop} {ql : Int32} {sy l wt qu cs : Nat → Int32} (hl : ed_ok l) {i w : Nat} (hi : i < 6) (hw : w < 10) (h : ∀ t, t ≤ ed_tl l w → cs t = nI (ed_c qu (fun j => sy (6 * w + j)) i t))
    (H : ∀ cs', (∀ t, t ≤ ed_tl l w → cs' t = nI (ed_c qu (fun j => sy (6 * w + j)) (i + 1) t)) → post (ql, sy, l, wt, qu, cs')) : wX_dealWith_9 post (nI i) (nI w) (nI (ed_ch i)) ql sy l wt qu cs := by
  refine nm_r (h 0 (Nat.zero_le _)) (nm_r (e' := upd cs 0 (nI (ed_c qu (fun j => sy (6 * w + j)) (i + 1) 0))) ?_ ⟨ed_tl l w + 1, ?_⟩)
  · rw [nI_add]; rfl
  · exact xw_dealL hl hi hw H (ed_tl l w) 0 _ (by omega) (ed_Es (ed_E0 h))
theorem xw_dealWith {post : SX → Prop} {ql : Int32} {sy l wt qu cs : Nat → Int32} (hl : ed_ok l) {i w : Nat} (hi : i < 6) (hw : w < 10) (h : ∀ t, t ≤ ed_tl l w → cs t = nI (ed_c qu (fun j => sy (6 * w + j)) i t))
    (H : ∀ cs', (∀ t, t ≤ ed_tl l w → cs' t = nI (ed_c qu (fun j => sy (6 * w + j)) (i + 1) t)) → post (ql, sy, l, wt, qu, cs')) : wpX_dealWith post (ql, sy, l, wt, qu, cs) (nI i) (nI w) := by
  have g := xw_deal9 hl hi hw h H
  refine pk_eq i 0 (fun z => ?_) (fun z => ?_)
  · rw [show ed_ch i = 2 by unfold ed_ch; rw [if_pos z]] at g; exact g
  · rw [show ed_ch i = 1 by unfold ed_ch; rw [if_neg z]] at g; exact g
theorem xw_least56 {post : Int32 → SX → Prop} {ql : Int32} {sy l wt qu cs : Nat → Int32} (hl : ed_ok l) {w : Nat} (hw : w < 10) {r : Nat → Nat} (hr : ∀ t, t ≤ ed_tl l w → cs t = nI (r t)) (hb : ∀ t, t ≤ 6 → r t < 1000) (H : post (nI (ed_m r (ed_tl l w))) (ql, sy, l, wt, qu, cs)) :
    ∀ d j, j + d = ed_tl l w → wX_leastCost_56 post (nI w) ql sy l wt qu cs (d + 1) (nI (ed_m r j)) (nI (j + 1)) := by
  have hm := ed_ok2 hl w
  have hiw : vp_in (nI w) 10 := vp_in_nI hw (by omega)
  have h0 := hb 0 (by omega)
  intro d
  induction d with
  | zero =>
    intro j hj
    have e : ed_tl l w = j := by omega
    rw [e] at H
    refine ⟨hiw, br_t ?_ H⟩
    rw [ed_la hl hw]
    exact nI_lt (by omega) (by omega)
  | succ d ih =>
    intro j hj
    have hn : ¬ l (nI w).toNatClampNeg < nI (j + 1) := by rw [ed_la hl hw]; exact nI_nlt (by omega) (by omega)
    have ec : cs (nI (j + 1)).toNatClampNeg = nI (r (j + 1)) := by rw [nI_clamp (by omega)]; exact hr (j + 1) (by omega)
    have hi : vp_in (nI (j + 1)) 7 := vp_in_nI (by omega) (by omega)
    have next := ih (j + 1) (by omega)
    have bm := ed_mle r j
    have br := hb (j + 1) (by omega)
    have es := ed_ms r j
    refine ⟨hiw, br_f hn ⟨hi, pk_le (ed_m r j) (r (j + 1)) (fun h => nm_r (nI_1 (j + 1)) ?_) (fun h => ⟨hi, nm_r ec (nm_r (nI_1 (j + 1)) ?_)⟩) rfl ec⟩⟩
    · rw [show ed_m r (j + 1) = ed_m r j by omega] at next; exact next
    · rw [show ed_m r (j + 1) = r (j + 1) by omega] at next; exact next
theorem xw_least29 {post : Int32 → SX → Prop} {ql : Int32} {sy l wt qu : Nat → Int32} (hl : ed_ok l) {n w : Nat} (hn : n ≤ 6) (hw : w < 10) (H : ∀ cs', post (nI (ed_ty l sy qu n w)) (ql, sy, l, wt, qu, cs')) :
    ∀ d i cs, i + d = n → (∀ t, t ≤ ed_tl l w → cs t = nI (ed_c qu (fun j => sy (6 * w + j)) i t)) → wX_leastCost_29 post (nI w) (nI n) (d + 1) (nI i) ql sy l wt qu cs := by
  intro d
  induction d with
  | zero =>
    intro i cs hi h
    have e : i = n := by omega
    rw [e] at h
    rw [e]
    refine br_t (Int32.le_refl _) (nm_r (h 0 (Nat.zero_le _)) ⟨ed_tl l w + 1, ?_⟩)
    exact xw_least56 hl hw h (fun t ht => by have := ed_cle qu (fun j => sy (6 * w + j)) n t; omega) (H cs) (ed_tl l w) 0 (by omega)
  | succ d ih =>
    intro i cs hi h
    refine br_f (nI_ge (by omega) (by omega)) (xw_dealWith hl (by omega) hw h (fun cs' h' => ?_))
    exact nm_r (nI_1 i) (ih (i + 1) cs' (by omega) h')
theorem xw_least2 {post : Int32 → SX → Prop} {ql : Int32} {sy l wt qu : Nat → Int32} (hl : ed_ok l) {n w : Nat} (hn : n ≤ 6) (hw : w < 10) (H : ∀ cs', post (nI (ed_ty l sy qu n w)) (ql, sy, l, wt, qu, cs')) :
    ∀ d j cs, j + d = ed_tl l w + 1 → (∀ t, t < j → cs t = nI (2 * t)) → wX_leastCost_2 post (nI w) (nI n) ql (d + 1) (nI j) sy l wt qu cs := by
  have hm := ed_ok2 hl w
  have hiw : vp_in (nI w) 10 := vp_in_nI hw (by omega)
  intro d
  induction d with
  | zero =>
    intro j cs hj h
    refine ⟨hiw, br_t ?_ ⟨n + 1, xw_least29 hl hn hw H n 0 cs (by omega) (fun t ht => h t (by omega))⟩⟩
    rw [ed_la hl hw]
    exact nI_lt (by omega) (by omega)
  | succ d ih =>
    intro j cs hj h
    have hc : ¬ l (nI w).toNatClampNeg < nI j := by rw [ed_la hl hw]; exact nI_nlt (by omega) (by omega)
    refine ⟨hiw, br_f hc ⟨vp_in_nI (by omega) (by omega), nm_r (e' := upd cs j (nI (2 * j))) ?_ (nm_r (nI_1 j) (ih (j + 1) _ (by omega) ?_))⟩⟩
    · rw [nI_clamp (by omega), ed_i2]
    · intro t ht
      by_cases e : t = j
      · rw [e, pk_us]
      · rw [pk_un e]; exact h t (by omega)
theorem xw_leastCost {post : Int32 → SX → Prop} {ql : Int32} {sy l wt qu cs : Nat → Int32} (hl : ed_ok l) {n w : Nat} (hn : n ≤ 6) (hw : w < 10) (H : ∀ cs', post (nI (ed_ty l sy qu n w)) (ql, sy, l, wt, qu, cs')) : wpX_leastCost post (ql, sy, l, wt, qu, cs) (nI w) (nI n) :=
  ⟨ed_tl l w + 2, xw_least2 hl hn hw H (ed_tl l w + 1) 0 cs (by omega) (fun t ht => absurd ht (Nat.not_lt_zero t))⟩
