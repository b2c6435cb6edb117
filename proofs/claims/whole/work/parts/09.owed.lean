/-! the owed rows -/
theorem i_vc_extend {k : Nat} {u : SX} {v : SY} (I : i_Rel k u v) (hk : k + 3 ≤ 1536) (v1 : Int32) (v2 : Int32) : wpX_extend (fun r u' => wpY_extend (fun r' v' => r' = r ∧ i_Rel (k + 3) u' v') v v1 v2) u v1 v2 := by
  obtain ⟨n, sy, l, wt, qu, cx, cy, hn, hl, rfl, rfl⟩ := I
  unfold wpX_extend wpY_extend
  rcases ed_cw v1 with h | ⟨w, hw, rfl⟩
  · exact xw_isWordN h (br_t rfl (yw_isN h (br_t rfl ⟨rfl, ed_R hn hl⟩)))
  · have hm := ed_ok2 hl w
    have v : vp_in (nI w) 10 := vp_in_nI hw (by omega)
    refine xw_isWord hl hw (ed_gX (fun z => ?_) (fun z => yw_is hl hw (ed_gX (fun y => absurd z (ed_tf y)) (fun _ => ⟨rfl, ed_R hn hl⟩))))
    rcases ed_cs3 v2 with h | ⟨h0, h4, h3, h3'⟩ | ⟨h0, h4, h3, h3'⟩
    · exact br_t h (br_t rfl (yw_is hl hw (ed_gX (fun _ => br_t h ⟨rfl, ed_R hn hl⟩) (fun y => absurd y (ed_tf z)))))
    · exact br_f h0 (br_t h4 (br_t rfl (yw_is hl hw (ed_gX (fun _ => br_f h0 (br_t h3 ⟨rfl, ed_R hn hl⟩)) (fun y => absurd y (ed_tf z))))))
    · refine br_f h0 (br_f h4 (br_f (by decide) ⟨v, pk_lt (ed_tl l w) 6 (fun h => ?_) (fun h => ?_) (ed_la hl hw) rfl⟩))
      · have vx : vp_in (nI w * (6 : Int32) + l (nI w).toNatClampNeg) 60 := by rw [ed_la hl hw]; exact ed_z1i hw (by omega)
        have vy : vp_in ((6 : Int32) * nI w + l (nI w).toNatClampNeg) 60 := by rw [ed_la hl hw, ed_iy1]; exact vp_in_nI (by omega) (by omega)
        have e1 : upd sy (nI w * (6 : Int32) + l (nI w).toNatClampNeg).toNatClampNeg v2 = upd sy (6 * w + ed_tl l w) v2 := by rw [ed_la hl hw, ed_z1 hw (by omega)]
        have e2 : upd sy ((6 : Int32) * nI w + l (nI w).toNatClampNeg).toNatClampNeg v2 = upd sy (6 * w + ed_tl l w) v2 := by rw [ed_la hl hw, ed_iy1, nI_clamp (by omega)]
        have e3 : upd l (nI w).toNatClampNeg (l (nI w).toNatClampNeg + 1) = upd l w (nI (ed_tl l w + 1)) := by rw [ed_la hl hw, nI_clamp (by omega), nI_1]
        refine ⟨v, vx, nm_r e1 ⟨v, v, nm_r e3 (yw_is hl hw (ed_gX (fun _ => ?_) (fun y => absurd y (ed_tf z))))⟩⟩
        refine br_f h0 (br_f h3 ⟨v, br_t (by rw [ed_la hl hw]; exact nI_lt (b := 6) h (by decide)) ⟨v, vy, nm_r e2 ⟨v, v, nm_r e3 ⟨rfl, ed_R hn (ed_okU hl w _ (by omega))⟩⟩⟩⟩)
      · exact yw_is hl hw (ed_gX (fun _ => br_f h0 (br_f h3 ⟨v, br_f (by rw [ed_la hl hw]; exact nI_nlt (b := 6) h (by omega)) ⟨rfl, ed_R hn hl⟩⟩)) (fun y => absurd y (ed_tf z)))
theorem i_vc_remove {k : Nat} {u : SX} {v : SY} (I : i_Rel k u v) (hk : k + 3 ≤ 1536) (v1 : Int32) : wpX_remove (fun r u' => wpY_remove (fun r' v' => r' = r ∧ i_Rel (k + 3) u' v') v v1) u v1 := by
  obtain ⟨n, sy, l, wt, qu, cx, cy, hn, hl, rfl, rfl⟩ := I
  unfold wpX_remove wpY_remove
  rcases ed_cw v1 with h | ⟨w, hw, rfl⟩
  · exact xw_isWordN h (br_t rfl (yw_isN h (br_t rfl ⟨rfl, ed_R hn hl⟩)))
  · have v : vp_in (nI w) 10 := vp_in_nI hw (by omega)
    have e : upd l (nI w).toNatClampNeg 0 = upd l w (nI 0) := by rw [nI_clamp (by omega)]; rfl
    refine xw_isWord hl hw (ed_gX (fun z => ?_) (fun z => yw_is hl hw (ed_gX (fun y => absurd z (ed_tf y)) (fun _ => ⟨rfl, ed_R hn hl⟩))))
    exact ⟨v, nm_r e (yw_is hl hw (ed_gX (fun _ => ⟨v, nm_r e ⟨rfl, ed_R hn (ed_okU hl w 0 (by omega))⟩⟩) (fun y => absurd y (ed_tf z))))⟩
theorem i_vc_weigh {k : Nat} {u : SX} {v : SY} (I : i_Rel k u v) (hk : k + 3 ≤ 1536) (v1 : Int32) (v2 : Int32) : wpX_weigh (fun r u' => wpY_weigh (fun r' v' => r' = r ∧ i_Rel (k + 3) u' v') v v1 v2) u v1 v2 := by
  obtain ⟨n, sy, l, wt, qu, cx, cy, hn, hl, rfl, rfl⟩ := I
  unfold wpX_weigh wpY_weigh
  rcases ed_cw v1 with h | ⟨w, hw, rfl⟩
  · exact xw_isWordN h (br_t rfl (yw_isN h (br_t rfl ⟨rfl, ed_R hn hl⟩)))
  · have v : vp_in (nI w) 10 := vp_in_nI hw (by omega)
    have e : upd wt (nI w).toNatClampNeg v2 = upd wt w v2 := by rw [nI_clamp (by omega)]
    refine xw_isWord hl hw (ed_gX (fun z => ?_) (fun z => yw_is hl hw (ed_gX (fun y => absurd z (ed_tf y)) (fun _ => ⟨rfl, ed_R hn hl⟩))))
    rcases ed_cs9 v2 with g | ⟨g0, g9, g9'⟩ | ⟨g0, g9, g9'⟩
    · exact br_t g (br_t rfl (yw_is hl hw (ed_gX (fun _ => br_t g ⟨rfl, ed_R hn hl⟩) (fun y => absurd y (ed_tf z)))))
    · exact br_f g0 (br_t g9 (br_t rfl (yw_is hl hw (ed_gX (fun _ => br_f g0 (br_f g9' ⟨rfl, ed_R hn hl⟩)) (fun y => absurd y (ed_tf z))))))
    · exact br_f g0 (br_f g9 (br_f (by decide) ⟨v, nm_r e (yw_is hl hw (ed_gX (fun _ => br_f g0 (br_t g9' ⟨v, nm_r e ⟨rfl, ed_R hn hl⟩⟩)) (fun y => absurd y (ed_tf z))))⟩))
theorem i_vc_words {k : Nat} {u : SX} {v : SY} (I : i_Rel k u v) (hk : k + 3 ≤ 1536) : wpX_words (fun r => wpY_words (fun r' => r' = r ∧ i_Rel (k + 3) u v) v) u := by
  obtain ⟨n, sy, l, wt, qu, cx, cy, hn, hl, rfl, rfl⟩ := I
  exact xw_words hl (yw_words hl ⟨rfl, ed_R hn hl⟩)
theorem i_vc_type {k : Nat} {u : SX} {v : SY} (I : i_Rel k u v) (hk : k + 3 ≤ 1536) (v1 : Int32) : wpX_type (fun r u' => wpY_type (fun r' v' => r' = r ∧ i_Rel (k + 3) u' v') v v1) u v1 := by
  obtain ⟨n, sy, l, wt, qu, cx, cy, hn, hl, rfl, rfl⟩ := I
  unfold wpX_type
  rcases ed_cs3 v1 with h | ⟨h0, h4, h3, h3'⟩ | ⟨h0, h4, h3, h3'⟩
  · exact br_t h (br_t rfl (br_t h ⟨rfl, ed_R hn hl⟩))
  · exact br_f h0 (br_t h4 (br_t rfl (br_f h0 (br_f h3' ⟨rfl, ed_R hn hl⟩))))
  · refine br_f h0 (br_f h4 (br_f (by decide) ?_))
    by_cases h6 : n < 6
    · refine br_t (nI_lt (b := 6) h6 (by decide)) ⟨vp_in_nI h6 (by omega), nm_r (e' := upd qu n v1) (by rw [nI_clamp (by omega)]) (nm_r (nI_1 n) ?_)⟩
      exact xw_countFound hl (n := n + 1) h6 rfl fun c1 => yw_type hl h6 h0 h3' fun c2 => ⟨rfl, ed_R h6 hl⟩
    · have e : n = 6 := by omega
      subst e
      exact br_f (by decide) (br_f h0 (br_t h3' (br_f (by decide) ⟨rfl, ed_R hn hl⟩)))
theorem i_vc_rub {k : Nat} {u : SX} {v : SY} (I : i_Rel k u v) (hk : k + 3 ≤ 1536) : wpX_rub (fun r u' => wpY_rub (fun r' v' => r' = r ∧ i_Rel (k + 3) u' v') v) u := by
  obtain ⟨n, sy, l, wt, qu, cx, cy, hn, hl, rfl, rfl⟩ := I
  unfold wpX_rub
  rcases n with _ | n
  · exact br_t rfl (br_t rfl ⟨rfl, ed_R hn hl⟩)
  · refine br_f (nI_ne0 (by omega) (by omega)) (nm_r (nI_pred n) ⟨vp_in_nI (by omega) (by omega), ?_⟩)
    rw [nI_clamp (by omega)]
    exact yw_rub (by omega) ⟨rfl, ed_R (by omega) hl⟩
theorem i_vc_typed {k : Nat} {u : SX} {v : SY} (I : i_Rel k u v) (hk : k + 3 ≤ 1536) : wpX_typed (fun r => wpY_typed (fun r' => r' = r ∧ i_Rel (k + 3) u v) v) u := by
  obtain ⟨n, sy, l, wt, qu, cx, cy, hn, hl, rfl, rfl⟩ := I
  exact ⟨rfl, ed_R hn hl⟩
theorem i_vc_typos {k : Nat} {u : SX} {v : SY} (I : i_Rel k u v) (hk : k + 3 ≤ 1536) (v1 : Int32) : wpX_typos (fun r u' => wpY_typos (fun r' v' => r' = r ∧ i_Rel (k + 3) u' v') v v1) u v1 := by
  obtain ⟨n, sy, l, wt, qu, cx, cy, hn, hl, rfl, rfl⟩ := I
  unfold wpX_typos wpY_typos
  rcases ed_cw v1 with h | ⟨w, hw, rfl⟩
  · exact xw_isWordN h (br_t rfl (yw_isN h (br_t rfl ⟨rfl, ed_R hn hl⟩)))
  · have b := ed_tyle l sy qu n w
    refine xw_isWord hl hw (ed_gX (fun z => ?_) (fun z => yw_is hl hw (ed_gX (fun y => absurd z (ed_tf y)) (fun _ => ⟨rfl, ed_R hn hl⟩))))
    refine xw_leastCost hl hn hw fun c1 => pk_le 3 (ed_ty l sy qu n w) (fun h => ?_) (fun h => ?_)
    · exact yw_is hl hw (ed_gX (fun _ => yw_edits hl hn hw fun c2 => yw_min (b := 3) rfl rfl (by omega) (by omega) ⟨congrArg nI (a₂ := 3) (by omega), ed_R hn hl⟩) (fun y => absurd y (ed_tf z)))
    · exact yw_is hl hw (ed_gX (fun _ => yw_edits hl hn hw fun c2 => yw_min (b := 3) rfl rfl (by omega) (by omega) ⟨congrArg nI (by omega), ed_R hn hl⟩) (fun y => absurd y (ed_tf z)))
theorem i_vc_found {k : Nat} {u : SX} {v : SY} (I : i_Rel k u v) (hk : k + 3 ≤ 1536) : wpX_found (fun r u' => wpY_found (fun r' v' => r' = r ∧ i_Rel (k + 3) u' v') v) u := by
  obtain ⟨n, sy, l, wt, qu, cx, cy, hn, hl, rfl, rfl⟩ := I
  exact xw_found hl hn fun c1 => yw_found hl hn fun c2 => ⟨rfl, ed_R hn hl⟩
theorem i_vc_at {k : Nat} {u : SX} {v : SY} (I : i_Rel k u v) (hk : k + 3 ≤ 1536) (v1 : Int32) : wpX_at (fun r u' => wpY_at (fun r' v' => r' = r ∧ i_Rel (k + 3) u' v') v v1) u v1 := by
  obtain ⟨n, sy, l, wt, qu, cx, cy, hn, hl, rfl, rfl⟩ := I
  exact xw_at hl hn fun c1 => yw_at hl hn fun c2 => ⟨rfl, ed_R hn hl⟩
theorem i_vc_place {k : Nat} {u : SX} {v : SY} (I : i_Rel k u v) (hk : k + 3 ≤ 1536) (v1 : Int32) : wpX_place (fun r u' => wpY_place (fun r' v' => r' = r ∧ i_Rel (k + 3) u' v') v v1) u v1 := by
  obtain ⟨n, sy, l, wt, qu, cx, cy, hn, hl, rfl, rfl⟩ := I
  rcases ed_cw v1 with h | ⟨w, hw, rfl⟩
  · unfold wpX_place wpY_place
    exact xw_isFoundN h (br_t rfl (yw_isFoundN h (br_t rfl ⟨rfl, ed_R hn hl⟩)))
  · exact xw_place hl hn hw fun c1 => yw_place hl hn hw fun c2 => ⟨rfl, ed_R hn hl⟩
theorem i_vc_hints {k : Nat} {u : SX} {v : SY} (I : i_Rel k u v) (hk : k + 3 ≤ 1536) : wpX_hints (fun r u' => wpY_hints (fun r' v' => r' = r ∧ i_Rel (k + 3) u' v') v) u := by
  obtain ⟨n, sy, l, wt, qu, cx, cy, hn, hl, rfl, rfl⟩ := I
  by_cases h : n < 6
  · exact xw_hints hl h fun c1 => yw_hints hl h fun c2 => ⟨rfl, ed_R hn hl⟩
  · exact xw_hintsF (by omega) (yw_hintsF (by omega) ⟨rfl, ed_R hn hl⟩)
theorem i_vc_common {k : Nat} {u : SX} {v : SY} (I : i_Rel k u v) (hk : k + 3 ≤ 1536) : wpX_common (fun r u' => wpY_common (fun r' v' => r' = r ∧ i_Rel (k + 3) u' v') v) u := by
  obtain ⟨n, sy, l, wt, qu, cx, cy, hn, hl, rfl, rfl⟩ := I
  exact xw_common hl hn fun c1 r hr => yw_common hl hn fun c2 r' hr' => ⟨congrArg nI (ed_cmu hr hr'), ed_R hn hl⟩
