/-! the common beginning: X goes from the first found word on, Y over all pairs -/
theorem ed_Sr {l sy : Nat → Int32} {v t : Nat} : ed_S l sy v v t ↔ t ≤ ed_tl l v := ⟨fun h => h.1, fun h => ⟨h, h, fun _ _ => rfl⟩⟩
def ed_X (b : Nat → Bool) (l sy : Nat → Int32) (w f sN : Nat) : Prop := f < w ∧ b f = true ∧ ∀ t, t ≤ sN ↔ ∀ v, v < w → b v = true → ed_S l sy f v t
theorem ed_X1 {b : Nat → Bool} {l sy : Nat → Int32} {w : Nat} (hb : b w = true) (h0 : ∀ v, v < w → b v = false) : ed_X b l sy (w + 1) w (ed_tl l w) := by
  refine ⟨Nat.lt_succ_self w, hb, fun t => ⟨fun h v hv hbv => ?_, fun h => (h w (Nat.lt_succ_self w) hb).1⟩⟩
  by_cases e : v = w
  · rw [e]; exact ed_Sr.mpr h
  · exact absurd (h0 v (by omega)) (ed_tf hbv)
theorem ed_X2 {b : Nat → Bool} {l sy : Nat → Int32} {w f sN : Nat} (hb : b w = false) (h : ed_X b l sy w f sN) : ed_X b l sy (w + 1) f sN := by
  refine ⟨Nat.lt_succ_of_lt h.1, h.2.1, fun t => ⟨fun ht v hv hbv => ?_, fun ht => (h.2.2 t).mpr fun v hv => ht v (Nat.lt_succ_of_lt hv)⟩⟩
  by_cases e : v = w
  · rw [e] at hbv; exact absurd hb (ed_tf hbv)
  · exact (h.2.2 t).mp ht v (by omega) hbv
theorem ed_X3 {b : Nat → Bool} {l sy : Nat → Int32} {w f sN s' : Nat} (hb : b w = true) (h : ed_X b l sy w f sN) (hs : ∀ t, t ≤ s' ↔ (t ≤ sN ∧ t ≤ ed_tl l w ∧ ∀ i, i < t → sy (6 * f + i) = sy (6 * w + i))) : ed_X b l sy (w + 1) f s' := by
  refine ⟨Nat.lt_succ_of_lt h.1, h.2.1, fun t => ⟨fun ht v hv hbv => ?_, fun ht => ?_⟩⟩
  · have ⟨a1, a2, a3⟩ := (hs t).mp ht
    have a4 := (h.2.2 t).mp a1
    by_cases e : v = w
    · rw [e]; exact ⟨(a4 f h.1 h.2.1).1, a2, a3⟩
    · exact a4 v (by omega) hbv
  · have a5 := ht w (Nat.lt_succ_self w) hb
    exact (hs t).mpr ⟨(h.2.2 t).mpr fun v hv => ht v (Nat.lt_succ_of_lt hv), a5.2.1, a5.2.2⟩
theorem ed_X4 {b : Nat → Bool} {l sy : Nat → Int32} {f sN : Nat} (h : ed_X b l sy 10 f sN) : ed_cm b l sy sN := by
  refine ⟨fun z => absurd (z f h.1) (ed_tf h.2.1), fun v hv hbv t => ⟨fun ht a c ha hc hba hbc => ?_, fun ht => (h.2.2 t).mpr fun a ha hba => ht f a h.1 ha h.2.1 hba⟩⟩
  have a4 := (h.2.2 t).mp ht
  have p := a4 a ha hba
  have q := a4 c hc hbc
  exact ⟨p.2.1, q.2.1, fun i hi => (p.2.2 i hi).symm.trans (q.2.2 i hi)⟩
theorem ed_X5 {b : Nat → Bool} {l sy : Nat → Int32} (h : ∀ v, v < 10 → b v = false) : ed_cm b l sy 0 := ⟨fun _ => rfl, fun v hv hbv => absurd (h v hv) (ed_tf hbv)⟩
def ed_Y (b : Nat → Bool) (l sy : Nat → Int32) (n0 v w r : Nat) : Prop := ∀ t, t ≤ r ↔ (t ≤ n0 ∧ ∀ a c, c < 10 → (a < v ∨ (a = v ∧ c < w)) → b a = true → b c = true → ed_S l sy a c t)
theorem ed_Y0 {b : Nat → Bool} {l sy : Nat → Int32} {n0 : Nat} : ed_Y b l sy n0 0 0 n0 := fun t => ⟨fun h => ⟨h, fun a c _ z => by omega⟩, fun h => h.1⟩
theorem ed_Y1 {b : Nat → Bool} {l sy : Nat → Int32} {n0 v w r : Nat} (hb : ¬ (b v = true ∧ b w = true)) (h : ed_Y b l sy n0 v w r) : ed_Y b l sy n0 v (w + 1) r := by
  intro t
  refine (h t).trans ⟨fun ⟨h1, h2⟩ => ⟨h1, fun a c hc z ha hcb => ?_⟩, fun ⟨h1, h2⟩ => ⟨h1, fun a c hc z => h2 a c hc (by omega)⟩⟩
  by_cases e : a = v ∧ c = w
  · rw [e.1] at ha; rw [e.2] at hcb; exact absurd ⟨ha, hcb⟩ hb
  · exact h2 a c hc (by omega) ha hcb
theorem ed_Y2 {b : Nat → Bool} {l sy : Nat → Int32} {n0 v w r s : Nat} (hw : w < 10) (h1 : b v = true) (h2 : b w = true) (hs : ∀ t, t ≤ s ↔ ed_S l sy v w t) (h : ed_Y b l sy n0 v w r) : ed_Y b l sy n0 v (w + 1) (min r s) := by
  intro t
  constructor
  · intro ht
    have ⟨a1, a2⟩ := (h t).mp (by omega)
    refine ⟨a1, fun a c hc z ha hcb => ?_⟩
    by_cases e : a = v ∧ c = w
    · rw [e.1, e.2]; exact (hs t).mp (by omega)
    · exact a2 a c hc (by omega) ha hcb
  · intro ⟨a1, a2⟩
    have e1 := (h t).mpr ⟨a1, fun a c hc z => a2 a c hc (by omega)⟩
    have e2 := (hs t).mpr (a2 v w hw (by omega) h1 h2)
    omega
theorem ed_Y3 {b : Nat → Bool} {l sy : Nat → Int32} {n0 v r : Nat} (h : ed_Y b l sy n0 v 10 r) : ed_Y b l sy n0 (v + 1) 0 r := by
  intro t
  exact (h t).trans ⟨fun ⟨h1, h2⟩ => ⟨h1, fun a c hc z => h2 a c hc (by omega)⟩, fun ⟨h1, h2⟩ => ⟨h1, fun a c hc z => h2 a c hc (by omega)⟩⟩
theorem ed_Y4 {b : Nat → Bool} {l sy : Nat → Int32} {r : Nat} (h0 : ∀ v, v < 10 → b v = false) (h : ed_Y b l sy 0 10 0 r) : ed_cm b l sy r :=
  ⟨fun _ => by have := ((h r).mp (Nat.le_refl r)).1; omega, fun v hv hbv => absurd (h0 v hv) (ed_tf hbv)⟩
theorem ed_Y5 {b : Nat → Bool} {l sy : Nat → Int32} {r : Nat} (hl : ed_ok l) (h0 : ¬ ∀ v, v < 10 → b v = false) (h : ed_Y b l sy 6 10 0 r) : ed_cm b l sy r := by
  refine ⟨fun z => absurd z h0, fun v hv hbv t => (h t).trans ⟨fun ⟨h1, h2⟩ a c ha hc => h2 a c hc (by omega), fun hG => ⟨?_, fun a c hc z => hG a c (by omega) hc⟩⟩⟩
  have := (hG v v hv hv hbv hbv).1
  have := ed_ok2 hl v
  omega
