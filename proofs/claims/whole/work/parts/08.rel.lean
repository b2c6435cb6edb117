/-! the relation, and begin in lockstep -/
/-- words, weights and query are the same functions on both sides, the query has nI n symbols, every length is at most 6; the tables of costs are free -/
def i_Rel (_ : Nat) (u : SX) (v : SY) : Prop := ∃ (n : Nat) (sy l wt qu cx cy : Nat → Int32), n ≤ 6 ∧ ed_ok l ∧ u = (nI n, sy, l, wt, qu, cx) ∧ v = (nI n, l, sy, wt, qu, cy)
theorem ed_R {k n : Nat} {sy l wt qu cx cy : Nat → Int32} (hn : n ≤ 6) (hl : ed_ok l) : i_Rel k (nI n, sy, l, wt, qu, cx) (nI n, l, sy, wt, qu, cy) := ⟨n, sy, l, wt, qu, cx, cy, hn, hl, rfl, rfl⟩
theorem i_up {k : Nat} {u : SX} {v : SY} (h : i_Rel k u v) : i_Rel (k + 3) u v := h
theorem i_vc0 : wpX_init (fun u => wpY_init (fun v => i_Rel 0 u v)) := ed_R (k := 0) (n := 0) (by omega) (fun _ => ⟨0, by omega, rfl⟩)
theorem bg_loop {n : Nat} {sy l wt qu : Nat → Int32} (hl : ed_ok l) (x1 x2 : Int32) : ∀ d k, k + d = 10 → ∃ (r : Int32) (sy' l' wt' : Nat → Int32), ed_ok l' ∧
    (∀ (post : Int32 → SX → Prop) (cs : Nat → Int32), post r (nI n, sy', l', wt', qu, cs) → wX_begin_18 post x1 x2 (nI n) sy l wt qu cs (d + 1) (nI k)) ∧
    (∀ (post : Int32 → SY → Prop) (cs : Nat → Int32), post r (nI n, l', sy', wt', qu, cs) → wY_begin_23 post x1 x2 (nI n) l sy wt qu cs (d + 1) (nI k)) := by
  intro d
  induction d with
  | zero =>
    intro k hk
    have e : k = 10 := by omega
    subst e
    exact ⟨-2, sy, l, wt, hl, fun _ _ hp => br_t ed_10 hp, fun _ _ hp => br_t ed_10 hp⟩
  | succ d ih =>
    intro k hk
    have hk10 : k < 10 := by omega
    have hm := ed_ok2 hl k
    have v : vp_in (nI k) 10 := vp_in_nI hk10 (by omega)
    by_cases z : ed_tl l k = 0
    · have hz : l (nI k).toNatClampNeg = 0 := by rw [ed_la hl hk10, z]; rfl
      have vx : vp_in (nI k * (6 : Int32)) 60 := by rw [ed_iz0]; exact vp_in_nI (by omega) (by omega)
      have vy : vp_in ((6 : Int32) * nI k) 60 := by rw [ed_iy0]; exact vp_in_nI (by omega) (by omega)
      have ek : (nI k).toNatClampNeg = k := nI_clamp (by omega)
      have e1 : upd sy (nI k * (6 : Int32)).toNatClampNeg x1 = upd sy (6 * k) x1 := by rw [ed_iz0, nI_clamp (by omega)]
      have e2 : upd sy ((6 : Int32) * nI k).toNatClampNeg x1 = upd sy (6 * k) x1 := by rw [ed_iy0, nI_clamp (by omega)]
      have e3 : upd l (nI k).toNatClampNeg 1 = upd l k (nI 1) := by rw [ek]; rfl
      have e4 : upd wt (nI k).toNatClampNeg x2 = upd wt k x2 := by rw [ek]
      refine ⟨nI k, upd sy (6 * k) x1, upd l k (nI 1), upd wt k x2, ed_okU hl k 1 (by omega), fun _ _ hp => ?_, fun _ _ hp => ?_⟩
      · exact br_f (ed_w10 hk10) ⟨v, br_t hz ⟨vx, nm_r e1 ⟨v, nm_r e3 ⟨v, nm_r e4 hp⟩⟩⟩⟩
      · exact br_f (ed_w10 hk10) ⟨v, br_t hz ⟨v, nm_r e3 ⟨vy, nm_r e2 ⟨v, nm_r e4 hp⟩⟩⟩⟩
    · have hz : ¬ l (nI k).toNatClampNeg = 0 := by rw [ed_la hl hk10]; exact nI_ne0 (by omega) (by omega)
      obtain ⟨r, sy', l', wt', h1, h2, h3⟩ := ih (k + 1) (by omega)
      exact ⟨r, sy', l', wt', h1, fun post cs hp => br_f (ed_w10 hk10) ⟨v, br_f hz (nm_r (nI_1 k) (h2 post cs hp))⟩, fun post cs hp => br_f (ed_w10 hk10) ⟨v, br_f hz (nm_r (nI_1 k) (h3 post cs hp))⟩⟩
theorem i_vc_begin {k : Nat} {u : SX} {v : SY} (I : i_Rel k u v) (hk : k + 3 ≤ 1536) (v1 : Int32) (v2 : Int32) : wpX_begin (fun r u' => wpY_begin (fun r' v' => r' = r ∧ i_Rel (k + 3) u' v') v v1 v2) u v1 v2 := by
  obtain ⟨n, sy, l, wt, qu, cx, cy, hn, hl, rfl, rfl⟩ := I
  unfold wpX_begin
  rcases ed_cs3 v1 with h | ⟨h0, h4, h3, h3'⟩ | ⟨h0, h4, h3, h3'⟩
  · exact br_t h (br_t rfl (br_t h ⟨rfl, ed_R hn hl⟩))
  · exact br_f h0 (br_t h4 (br_t rfl (br_f h0 (br_t h3 ⟨rfl, ed_R hn hl⟩))))
  · refine br_f h0 (br_f h4 (br_f (by decide) ?_))
    rcases ed_cs9 v2 with g | ⟨g0, g9, g9'⟩ | ⟨g0, g9, g9'⟩
    · exact br_t g (br_t rfl (br_f h0 (br_f h3 (br_t g ⟨rfl, ed_R hn hl⟩))))
    · exact br_f g0 (br_t g9 (br_t rfl (br_f h0 (br_f h3 (br_f g0 (br_f g9' ⟨rfl, ed_R hn hl⟩))))))
    · obtain ⟨r, sy', l', wt', h1, hX, hY⟩ := bg_loop (n := n) (sy := sy) (wt := wt) (qu := qu) hl v1 v2 10 0 rfl
      exact br_f g0 (br_f g9 (br_f (by decide) ⟨11, hX _ cx (br_f h0 (br_f h3 (br_f g0 (br_t g9' ⟨11, hY _ cy ⟨rfl, ed_R hn h1⟩⟩))))⟩))
