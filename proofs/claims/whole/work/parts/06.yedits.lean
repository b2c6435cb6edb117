/-! Y: word, step, edits -/
theorem yw_is {post : Int32 → Prop} {sy l wt qu cs : Nat → Int32} {n : Nat} (hl : ed_ok l) {w : Nat} (hw : w < 10) (H : post (ed_bI (ed_wd l w))) : wpY_is post (nI n, l, sy, wt, qu, cs) (nI w) := by
  have h0 : ¬ nI w < 0 := nI_pos (by omega)
  have e := ed_la hl hw
  have hm := ed_ok2 hl w
  by_cases z : ed_tl l w = 0
  · rw [ed_wdf z] at H
    exact br_f h0 (br_f (ed_w10 hw) ⟨vp_in_nI hw (by omega), br_t (by rw [e, z]; exact Int32.le_refl _) H⟩)
  · rw [ed_wdt (by omega)] at H
    exact br_f h0 (br_f (ed_w10 hw) ⟨vp_in_nI hw (by omega), br_f (by rw [e]; exact nI_nle (by omega) (by omega)) H⟩)
theorem yw_isN {post : Int32 → Prop} {sy l wt qu cs : Nat → Int32} {n : Nat} {x : Int32} (h : ed_out x) (H : post 0) : wpY_is post (nI n, l, sy, wt, qu, cs) x := by
  rcases h with h | ⟨h, h1⟩
  · exact br_t h H
  · exact br_f h (br_t h1 H)
theorem yw_min {post : Int32 → Prop} {sy l wt qu cs : Nat → Int32} {n : Nat} {x y : Int32} {a b : Nat} (hx : x = nI a) (hy : y = nI b) (ha : a < 2 ^ 31) (hb : b < 2 ^ 31) (H : post (nI (min a b))) : wpY_min post (nI n, l, sy, wt, qu, cs) x y := by
  subst hx hy
  refine pk_le b a (fun h => ?_) (fun h => ?_)
  · rw [show min a b = b by omega] at H; exact H
  · rw [show min a b = a by omega] at H; exact H
theorem yw_s147 {post : Int32 → Prop} {sy l wt qu cs : Nat → Int32} {n : Nat} {z0 z1 z2 : Int32} {a b c : Nat} (h0 : z0 = nI a) (h1 : z1 = nI b) (h2 : z2 = nI c) (ha : a < 1000) (hb : b < 1000) (hc : c < 1000) (H : post (nI (min c (b + a)))) : wY_step_147 post z0 z1 z2 (nI n) l sy wt qu cs := by
  subst h0 h1 h2
  exact yw_min rfl (nI_add b a) (by omega) (by omega) H
theorem yw_s80 {post : Int32 → Prop} {sy l wt qu cs : Nat → Int32} {n : Nat} {w i j V c C : Nat} (hw : w < 10) (hi : i < 6) (hj : j < 6) (hC : cs (7 * i + j) = nI C) (bC : C < 1000) (bV : V < 1000) (bc : c < 1000)
    (H : post (nI (min V (C + (if qu i = sy (6 * w + j) then 0 else c))))) : wY_step_80 post (nI w) (nI (i + 1)) (nI (j + 1)) (nI V) (nI c) (nI n) l sy wt qu cs := by
  have e1 : qu (nI (i + 1) - 1).toNatClampNeg = qu i := by rw [nI_pred, nI_clamp (by omega)]
  have e2 : sy ((6 : Int32) * nI w + nI (j + 1) - 1).toNatClampNeg = sy (6 * w + j) := by rw [ed_iy2, nI_clamp (by omega)]
  have e3 : cs ((7 : Int32) * nI (i + 1) + nI (j + 1) - 8).toNatClampNeg = nI C := by rw [ed_ix3, nI_clamp (by omega)]; exact hC
  have v1 : vp_in (nI (i + 1) - 1) 7 := by rw [nI_pred]; exact vp_in_nI (by omega) (by omega)
  have v2 : vp_in ((6 : Int32) * nI w + nI (j + 1) - 1) 60 := by rw [ed_iy2]; exact vp_in_nI (by omega) (by omega)
  have v3 : vp_in ((7 : Int32) * nI (i + 1) + nI (j + 1) - 8) 49 := by rw [ed_ix3]; exact vp_in_nI (by omega) (by omega)
  refine br_f (nI_nle (by omega) (by omega)) (br_f (nI_nle (by omega) (by omega)) ⟨v1, v2, ?_⟩)
  by_cases he : qu i = sy (6 * w + j)
  · rw [if_pos he] at H
    exact br_t (by rw [e1, e2]; exact he) ⟨v3, br_f (by decide) (yw_s147 (a := 0) rfl e3 rfl (by omega) bC bV H)⟩
  · rw [if_neg he] at H
    exact br_f (by rw [e1, e2]; exact he) ⟨v3, br_t rfl (yw_s147 rfl e3 rfl bc bC bV H)⟩
theorem yw_stepA {post : Int32 → Prop} {sy l wt qu cs : Nat → Int32} {n : Nat} {w j C : Nat} (hj : j < 6) (hC : cs j = nI C) (bC : C < 90) (H : post (nI (C + 2))) : wpY_step post (nI n, l, sy, wt, qu, cs) (nI w) (nI 0) (nI (j + 1)) := by
  have e : cs ((7 : Int32) * nI 0 + nI (j + 1) - 1).toNatClampNeg = nI C := by rw [ed_ix2, nI_clamp (by omega), Nat.mul_zero, Nat.zero_add]; exact hC
  have v : vp_in ((7 : Int32) * nI 0 + nI (j + 1) - 1) 49 := by rw [ed_ix2]; exact vp_in_nI (by omega) (by omega)
  refine br_f (by decide) (br_t (Int32.le_refl _) (br_f (nI_nle (by omega) (by omega)) ⟨v, br_t rfl ?_⟩))
  refine yw_min (a := 100) (b := C + 2) rfl (by rw [e]; exact nI_add C 2) (by omega) (by omega) (br_t (Int32.le_refl _) ?_)
  rw [show min 100 (C + 2) = C + 2 by omega]
  exact H
theorem yw_stepB14 {post : Int32 → Prop} {sy l wt qu cs : Nat → Int32} {n : Nat} {w i C c : Nat} (hi : i < 6) (hC : cs (7 * i) = nI C) (bC : C < 90) (bc : c ≤ 2) (H : post (nI (C + c))) : wY_step_14 post (nI w) (nI (i + 1)) (nI 0) 100 (nI c) (nI n) l sy wt qu cs := by
  have e : cs ((7 : Int32) * nI (i + 1) - 7 + nI 0).toNatClampNeg = nI C := by rw [ed_ix1, nI_clamp (by omega), Nat.add_zero]; exact hC
  have v : vp_in ((7 : Int32) * nI (i + 1) - 7 + nI 0) 49 := by rw [ed_ix1]; exact vp_in_nI (by omega) (by omega)
  refine br_f (nI_nle (by omega) (by omega)) ⟨v, yw_min (a := 100) (b := C + c) rfl (by rw [e]; exact nI_add C c) (by omega) (by omega) ?_⟩
  rw [show min 100 (C + c) = C + c by omega]
  exact br_t (Int32.le_refl _) (br_f (nI_nle (by omega) (by omega)) (br_t (Int32.le_refl _) H))
theorem yw_stepC14 {post : Int32 → Prop} {sy l wt qu cs : Nat → Int32} {n : Nat} {w i j U A C c V : Nat} (hw : w < 10) (hi : i < 6) (hj : j < 6) (hU : cs (7 * i + (j + 1)) = nI U) (hA : cs (7 * (i + 1) + j) = nI A) (hC : cs (7 * i + j) = nI C) (bU : U < 90) (bA : A < 90) (bC : C < 90) (bc : c ≤ 2)
    (hV : V = min (A + 1) (min (C + (if qu i = sy (6 * w + j) then 0 else c)) (U + c))) (H : post (nI V)) : wY_step_14 post (nI w) (nI (i + 1)) (nI (j + 1)) 100 (nI c) (nI n) l sy wt qu cs := by
  have e1 : cs ((7 : Int32) * nI (i + 1) - 7 + nI (j + 1)).toNatClampNeg = nI U := by rw [ed_ix1, nI_clamp (by omega)]; exact hU
  have v1 : vp_in ((7 : Int32) * nI (i + 1) - 7 + nI (j + 1)) 49 := by rw [ed_ix1]; exact vp_in_nI (by omega) (by omega)
  have e2 : cs ((7 : Int32) * nI (i + 1) + nI (j + 1) - 1).toNatClampNeg = nI A := by rw [ed_ix2, nI_clamp (by omega)]; exact hA
  have v2 : vp_in ((7 : Int32) * nI (i + 1) + nI (j + 1) - 1) 49 := by rw [ed_ix2]; exact vp_in_nI (by omega) (by omega)
  refine br_f (nI_nle (by omega) (by omega)) ⟨v1, yw_min (a := 100) (b := U + c) rfl (by rw [e1]; exact nI_add U c) (by omega) (by omega) ?_⟩
  refine br_f (nI_nle (by omega) (by omega)) ⟨v2, br_f (nI_ne0 (by omega) (by omega)) ?_⟩
  refine yw_min (a := min 100 (U + c)) (b := A + 1) rfl (by rw [e2]; exact nI_add A 1) (by omega) (by omega) ?_
  refine yw_s80 hw hi hj hC (by omega) (by omega) (by omega) ?_
  rw [show min (min (min 100 (U + c)) (A + 1)) (C + (if qu i = sy (6 * w + j) then 0 else c)) = V by rw [hV]; omega]
  exact H
theorem yw_first {post : Int32 → Prop} {sy l wt qu cs : Nat → Int32} {n : Nat} {w i : Nat} (hi : i < 6) {y : Int32} (H : wY_step_14 post (nI w) (nI (i + 1)) y 100 (nI (ed_ch i)) (nI n) l sy wt qu cs) : wpY_step post (nI n, l, sy, wt, qu, cs) (nI w) (nI (i + 1)) y := by
  refine pk_eq (i + 1) 1 (fun z => ?_) (fun z => ?_)
  · rw [show ed_ch i = 2 by unfold ed_ch; rw [if_pos (by omega)]] at H; exact H
  · rw [show ed_ch i = 1 by unfold ed_ch; rw [if_neg (by omega)]] at H; exact H
theorem yw_step {post : Int32 → Prop} {sy l wt qu cs : Nat → Int32} {n : Nat} {w i j m : Nat} (hw : w < 10) (hi : i ≤ 6) (hj : j ≤ m) (hm : m ≤ 6) (h0 : ¬ (i = 0 ∧ j = 0)) (h : ed_D qu (fun j => sy (6 * w + j)) m i j cs) (H : post (nI (ed_c qu (fun j => sy (6 * w + j)) i j))) : wpY_step post (nI n, l, sy, wt, qu, cs) (nI w) (nI i) (nI j) := by
  rcases i with _ | i
  · rcases j with _ | j
    · exact absurd ⟨rfl, rfl⟩ h0
    · have hC := h.2 j (by omega)
      rw [Nat.mul_zero, Nat.zero_add, ed_c0] at hC
      refine yw_stepA (by omega) hC (by omega) ?_
      rw [ed_c0, show 2 * (j + 1) = 2 * j + 2 by omega] at H
      exact H
  · have bc := ed_ch2 i
    rcases j with _ | j
    · have hC := h.1 i 0 (by omega) (by omega)
      have bC := ed_cle qu (fun j => sy (6 * w + j)) i 0
      exact yw_first (by omega) (yw_stepB14 (by omega) hC (by omega) bc H)
    · have hU := h.1 i (j + 1) (by omega) hj
      have hA := h.2 j (by omega)
      have hC := h.1 i j (by omega) (by omega)
      have bU := ed_cle qu (fun j => sy (6 * w + j)) i (j + 1)
      have bA := ed_cle qu (fun j => sy (6 * w + j)) (i + 1) j
      have bC := ed_cle qu (fun j => sy (6 * w + j)) i j
      exact yw_first (by omega) (yw_stepC14 hw (by omega) (by omega) hU hA hC (by omega) (by omega) (by omega) bc (ed_cs qu (fun j => sy (6 * w + j)) i j) H)
theorem yw_ed16 {post : Int32 → SY → Prop} {J : Int32 → (Nat → Int32) → (Nat → Int32) → (Nat → Int32) → (Nat → Int32) → (Nat → Int32) → Prop} {sy l wt qu : Nat → Int32} {n : Nat} (hl : ed_ok l) {w i : Nat} {x2 : Int32} (hw : w < 10) (hi : i ≤ 6)
    (HJ : ∀ cs', ed_D qu (fun j => sy (6 * w + j)) (ed_tl l w) (i + 1) 0 cs' → J (nI (i + 1)) l sy wt qu cs') :
    ∀ d j cs, j + d = ed_tl l w + 1 → ed_D qu (fun j => sy (6 * w + j)) (ed_tl l w) i j cs → wY_edits_16 post J (nI w) x2 (nI i) (nI n) (d + 1) (nI j) l sy wt qu cs := by
  have hm := ed_ok2 hl w
  have hiw : vp_in (nI w) 10 := vp_in_nI hw (by omega)
  intro d
  induction d with
  | zero =>
    intro j cs hj h
    have e : j = ed_tl l w + 1 := by omega
    rw [e] at h
    refine ⟨hiw, br_t ?_ (nm_r (nI_1 i) (HJ cs (ed_Dn h)))⟩
    rw [ed_la hl hw]
    exact nI_lt (by omega) (by omega)
  | succ d ih =>
    intro j cs hj h
    have hn : ¬ l (nI w).toNatClampNeg < nI j := by rw [ed_la hl hw]; exact nI_nlt (by omega) (by omega)
    have next := ih (j + 1) _ (by omega) (ed_Ds h (by omega) hm)
    have v : vp_in ((7 : Int32) * nI i + nI j) 49 := by rw [ed_ix4]; exact vp_in_nI (by omega) (by omega)
    have ei : ((7 : Int32) * nI i + nI j).toNatClampNeg = 7 * i + j := by rw [ed_ix4, nI_clamp (by omega)]
    have g : ¬ (i = 0 ∧ j = 0) → wY_edits_51 post J (wY_edits_16 post J (nI w) x2 (nI i) (nI n) (d + 1)) (nI w) x2 (nI i) (nI j) ((7 : Int32) * nI i + nI j) (nI n) l sy wt qu cs := fun z =>
      yw_step hw hi (by omega) hm z h ⟨v, nm_r (by rw [ei]) (nm_r (nI_1 j) next)⟩
    refine ⟨hiw, br_f hn (pk_eq i 0 (fun z => pk_eq j 0 (fun y => ⟨v, nm_r (e' := upd cs (7 * i + j) (nI (ed_c qu (fun j => sy (6 * w + j)) i j))) ?_ (nm_r (nI_1 j) next)⟩) (fun y => g (fun q => y q.2))) (fun z => g (fun q => z q.1)))⟩
    rw [ei, z, y]
    rfl
theorem yw_ed74 {post : Int32 → SY → Prop} {sy l wt qu cs : Nat → Int32} {n : Nat} (hl : ed_ok l) (hn : n ≤ 6) {w : Nat} (hw : w < 10) {r : Nat → Nat} (hr : ∀ t, t ≤ ed_tl l w → cs (7 * n + t) = nI (r t)) (hb : ∀ t, t ≤ 6 → r t < 90) (H : post (nI (ed_m r (ed_tl l w))) (nI n, l, sy, wt, qu, cs)) :
    ∀ d j, j + d = ed_tl l w → wY_edits_74 post (nI w) (nI n) l sy wt qu cs (d + 1) (nI (ed_m r j)) (nI (j + 1)) := by
  have hm := ed_ok2 hl w
  have hiw : vp_in (nI w) 10 := vp_in_nI hw (by omega)
  have h0 := hb 0 (by omega)
  intro d
  induction d with
  | zero =>
    intro j hj
    have e : ed_tl l w = j := by omega
    rw [e] at H
    refine ⟨hiw, br_t ?_ H⟩
    rw [ed_la hl hw]
    exact nI_lt (by omega) (by omega)
  | succ d ih =>
    intro j hj
    have hx : ¬ l (nI w).toNatClampNeg < nI (j + 1) := by rw [ed_la hl hw]; exact nI_nlt (by omega) (by omega)
    have ec : cs ((7 : Int32) * nI n + nI (j + 1)).toNatClampNeg = nI (r (j + 1)) := by rw [ed_ix4, nI_clamp (by omega)]; exact hr (j + 1) (by omega)
    have v : vp_in ((7 : Int32) * nI n + nI (j + 1)) 49 := by rw [ed_ix4]; exact vp_in_nI (by omega) (by omega)
    have bm := ed_mle r j
    have br := hb (j + 1) (by omega)
    exact ⟨hiw, br_f hx ⟨v, yw_min rfl ec (by omega) (by omega) (nm_r (nI_1 (j + 1)) (ih (j + 1) (by omega)))⟩⟩
theorem yw_ed74a {post : Int32 → SY → Prop} {sy l wt qu cs : Nat → Int32} {n : Nat} (hl : ed_ok l) (hn : n ≤ 6) {w : Nat} (hw : w < 10) {r : Nat → Nat} (hr : ∀ t, t ≤ ed_tl l w → cs (7 * n + t) = nI (r t)) (hb : ∀ t, t ≤ 6 → r t < 90) (H : post (nI (ed_m r (ed_tl l w))) (nI n, l, sy, wt, qu, cs)) :
    wY_edits_74 post (nI w) (nI n) l sy wt qu cs (ed_tl l w + 2) (nI 100) (nI 0) := by
  have hm := ed_ok2 hl w
  have hiw : vp_in (nI w) 10 := vp_in_nI hw (by omega)
  have h0 := hb 0 (by omega)
  have hx : ¬ l (nI w).toNatClampNeg < nI 0 := by rw [ed_la hl hw]; exact nI_nlt (by omega) (by omega)
  have ec : cs ((7 : Int32) * nI n + nI 0).toNatClampNeg = nI (r 0) := by rw [ed_ix4, nI_clamp (by omega)]; exact hr 0 (by omega)
  have v : vp_in ((7 : Int32) * nI n + nI 0) 49 := by rw [ed_ix4]; exact vp_in_nI (by omega) (by omega)
  have next := yw_ed74 (post := post) hl hn hw hr hb H (ed_tl l w) 0 (by omega)
  refine ⟨hiw, br_f hx ⟨v, yw_min (a := 100) (b := r 0) rfl ec (by omega) (by omega) (nm_r (nI_1 0) ?_)⟩⟩
  rw [show min 100 (r 0) = ed_m r 0 by show min 100 (r 0) = r 0; omega]
  exact next
theorem yw_ed5 {post : Int32 → SY → Prop} {sy l wt qu : Nat → Int32} {n : Nat} (hl : ed_ok l) (hn : n ≤ 6) {w : Nat} (hw : w < 10) (H : ∀ cs', post (nI (ed_ty l sy qu n w)) (nI n, l, sy, wt, qu, cs')) :
    ∀ d i cs, i + d = n + 1 → ed_D qu (fun j => sy (6 * w + j)) (ed_tl l w) i 0 cs → wY_edits_5 post (nI w) 100 (nI n) (d + 1) (nI i) l sy wt qu cs := by
  intro d
  induction d with
  | zero =>
    intro i cs hi h
    have e : i = n + 1 := by omega
    subst e
    exact br_t (nI_lt (by omega) (by omega)) ⟨ed_tl l w + 2, yw_ed74a hl hn hw (r := ed_c qu (fun j => sy (6 * w + j)) n) (fun t ht => h.1 n t (by omega) ht) (fun t ht => by have := ed_cle qu (fun j => sy (6 * w + j)) n t; omega) (H cs)⟩
  | succ d ih =>
    intro i cs hi h
    exact br_f (nI_nlt (by omega) (by omega)) ⟨ed_tl l w + 2, yw_ed16 hl hw (by omega) (fun cs' h' => ih (i + 1) cs' (by omega) h') (ed_tl l w + 1) 0 cs (by omega) h⟩
theorem yw_edits {post : Int32 → SY → Prop} {sy l wt qu cs : Nat → Int32} {n : Nat} (hl : ed_ok l) (hn : n ≤ 6) {w : Nat} (hw : w < 10) (H : ∀ cs', post (nI (ed_ty l sy qu n w)) (nI n, l, sy, wt, qu, cs')) : wpY_edits post (nI n, l, sy, wt, qu, cs) (nI w) :=
  ⟨n + 2, yw_ed5 hl hn hw H (n + 1) 0 cs (by omega) ed_D0⟩
