/-! steps of the two tables of costs, and indexes -/
theorem ed_s1 {q s : Nat → Int32} {i j : Nat} (h : q i = s j) : ed_c q s (i + 1) (j + 1) = min (ed_c q s (i + 1) j + 1) (min (ed_c q s i j) (ed_c q s i (j + 1) + ed_ch i)) := by
  rw [ed_cs, if_pos h]; rfl
theorem ed_s2 {q s : Nat → Int32} {i j : Nat} (h : ¬ q i = s j) : ed_c q s (i + 1) (j + 1) = min (ed_c q s (i + 1) j + 1) (min (ed_c q s i j + ed_ch i) (ed_c q s i (j + 1) + ed_ch i)) := by
  rw [ed_cs, if_neg h]
theorem ed_ix1 (i j : Nat) : (7 : Int32) * nI (i + 1) - 7 + nI j = nI (7 * i + j) := by
  show nI 7 * nI (i + 1) - nI 7 + nI j = _
  rw [pk_mul, pk_sub (by omega), nI_add]
  exact congrArg nI (by omega)
theorem ed_ix2 (i j : Nat) : (7 : Int32) * nI i + nI (j + 1) - 1 = nI (7 * i + j) := by
  show nI 7 * nI i + nI (j + 1) - nI 1 = _
  rw [pk_mul, nI_add, pk_sub (by omega)]
  exact congrArg nI (by omega)
theorem ed_ix3 (i j : Nat) : (7 : Int32) * nI (i + 1) + nI (j + 1) - 8 = nI (7 * i + j) := by
  show nI 7 * nI (i + 1) + nI (j + 1) - nI 8 = _
  rw [pk_mul, nI_add, pk_sub (by omega)]
  exact congrArg nI (by omega)
theorem ed_ix4 (i j : Nat) : (7 : Int32) * nI i + nI j = nI (7 * i + j) := by
  show nI 7 * nI i + nI j = _
  rw [pk_mul, nI_add]
theorem ed_iy0 (w : Nat) : (6 : Int32) * nI w = nI (6 * w) := pk_mul 6 w
theorem ed_iy1 (w j : Nat) : (6 : Int32) * nI w + nI j = nI (6 * w + j) := by
  show nI 6 * nI w + nI j = _
  rw [pk_mul, nI_add]
theorem ed_iy2 (w j : Nat) : (6 : Int32) * nI w + nI (j + 1) - 1 = nI (6 * w + j) := by
  show nI 6 * nI w + nI (j + 1) - nI 1 = _
  rw [pk_mul, nI_add, pk_sub (by omega)]
  exact congrArg nI (by omega)
theorem ed_iz0 (w : Nat) : nI w * (6 : Int32) = nI (6 * w) := by
  show nI w * nI 6 = _
  rw [pk_mul, Nat.mul_comm]
theorem ed_iz1 (w j : Nat) : nI w * (6 : Int32) + nI j = nI (6 * w + j) := by rw [ed_iz0, nI_add]
theorem ed_iz2 (w j : Nat) : nI w * (6 : Int32) + nI (j + 1) - 1 = nI (6 * w + j) := by
  rw [ed_iz0]
  show nI (6 * w) + nI (j + 1) - nI 1 = _
  rw [nI_add, pk_sub (by omega)]
  exact congrArg nI (by omega)
theorem ed_i2 (j : Nat) : nI j * (2 : Int32) = nI (2 * j) := by
  show nI j * nI 2 = _
  rw [pk_mul, Nat.mul_comm]
def ed_D (q s : Nat → Int32) (m i j : Nat) (cs : Nat → Int32) : Prop := (∀ a b, a < i → b ≤ m → cs (7 * a + b) = nI (ed_c q s a b)) ∧ ∀ b, b < j → cs (7 * i + b) = nI (ed_c q s i b)
theorem ed_Ds {q s : Nat → Int32} {m i j : Nat} {cs : Nat → Int32} (h : ed_D q s m i j cs) (hj : j ≤ m) (hm : m ≤ 6) : ed_D q s m i (j + 1) (upd cs (7 * i + j) (nI (ed_c q s i j))) := by
  refine ⟨fun a b ha hb => ?_, fun b hb => ?_⟩
  · rw [pk_un (by omega)]; exact h.1 a b ha hb
  · by_cases e : b = j
    · rw [e, pk_us]
    · rw [pk_un (by omega)]; exact h.2 b (by omega)
theorem ed_Dn {q s : Nat → Int32} {m i : Nat} {cs : Nat → Int32} (h : ed_D q s m i (m + 1) cs) : ed_D q s m (i + 1) 0 cs := by
  refine ⟨fun a b ha hb => ?_, fun b hb => absurd hb (Nat.not_lt_zero b)⟩
  by_cases e : a = i
  · rw [e]; exact h.2 b (by omega)
  · exact h.1 a b (by omega) hb
theorem ed_D0 {q s : Nat → Int32} {m : Nat} {cs : Nat → Int32} : ed_D q s m 0 0 cs := ⟨fun a _ ha => absurd ha (Nat.not_lt_zero a), fun b hb => absurd hb (Nat.not_lt_zero b)⟩
def ed_E (q s : Nat → Int32) (m i j : Nat) (cs : Nat → Int32) : Prop := (∀ t, t < j → cs t = nI (ed_c q s (i + 1) t)) ∧ ∀ t, j ≤ t → t ≤ m → cs t = nI (ed_c q s i t)
theorem ed_Es {q s : Nat → Int32} {m i j : Nat} {cs : Nat → Int32} (h : ed_E q s m i j cs) : ed_E q s m i (j + 1) (upd cs j (nI (ed_c q s (i + 1) j))) := by
  refine ⟨fun t ht => ?_, fun t h1 h2 => ?_⟩
  · by_cases e : t = j
    · rw [e, pk_us]
    · rw [pk_un e]; exact h.1 t (by omega)
  · rw [pk_un (by omega)]; exact h.2 t (by omega) h2
theorem ed_E0 {q s : Nat → Int32} {m i : Nat} {cs : Nat → Int32} (h : ∀ t, t ≤ m → cs t = nI (ed_c q s i t)) : ed_E q s m i 0 cs := ⟨fun t ht => absurd ht (Nat.not_lt_zero t), fun t _ h2 => h t h2⟩
theorem ed_En {q s : Nat → Int32} {m i : Nat} {cs : Nat → Int32} (h : ed_E q s m i (m + 1) cs) : ∀ t, t ≤ m → cs t = nI (ed_c q s (i + 1) t) := fun t ht => h.1 t (by omega)
theorem ed_fdt {l sy qu : Nat → Int32} {n w : Nat} (h0 : 0 < ed_tl l w) (h : ed_ty l sy qu n w ≤ ed_fg n) : ed_fd l sy qu n w = true := decide_eq_true ⟨h0, h⟩
theorem ed_fdf {l sy qu : Nat → Int32} {n w : Nat} (h : ¬ ed_ty l sy qu n w ≤ ed_fg n) : ed_fd l sy qu n w = false := decide_eq_false fun z => h z.2
theorem ed_fd0 {l sy qu : Nat → Int32} {n w : Nat} (h : ed_tl l w = 0) : ed_fd l sy qu n w = false := decide_eq_false fun z => by have := z.1; omega
theorem ed_wdt {l : Nat → Int32} {w : Nat} (h0 : 0 < ed_tl l w) : ed_wd l w = true := decide_eq_true h0
theorem ed_wdf {l : Nat → Int32} {w : Nat} (h0 : ed_tl l w = 0) : ed_wd l w = false := decide_eq_false (by omega)
theorem ed_wd1 {l : Nat → Int32} {w : Nat} (h : ed_wd l w = true) : 0 < ed_tl l w := of_decide_eq_true h
theorem ed_wd0 {l : Nat → Int32} {w : Nat} (h : ed_wd l w = false) : ed_tl l w = 0 := by
  have := of_decide_eq_false h
  omega
theorem ed_att {p : Nat → Bool} {d w : Nat} (h : p w = true) : ed_at p (d + 1) w = nI w := if_pos h
theorem ed_atf {p : Nat → Bool} {d w : Nat} (h : p w = false) : ed_at p (d + 1) w = ed_at p d (w + 1) := if_neg (by rw [h]; decide)
theorem ed_beq {l sy wt qu : Nat → Int32} {n w v : Nat} (h : v = w) : ed_be l sy wt qu n w v = false := by
  unfold ed_be
  rw [decide_eq_false (fun z => z h), Bool.false_and]
theorem ed_bef {l sy wt qu : Nat → Int32} {n w v : Nat} (h : ed_fd l sy qu n v = false) : ed_be l sy wt qu n w v = false := by
  unfold ed_be
  rw [h, Bool.false_and, Bool.and_false]
theorem ed_ben {l sy wt qu : Nat → Int32} {n w v : Nat} (h : ¬ v = w) (h2 : ed_fd l sy qu n v = true) : ed_be l sy wt qu n w v = ed_gb l sy wt qu n v w := by
  unfold ed_be
  rw [decide_eq_true h, h2, Bool.true_and, Bool.true_and]
theorem ed_ext {l sy qu : Nat → Int32} {n w : Nat} (h : ed_tl l w = n) (h2 : ∀ i, i < n → sy (6 * w + i) = qu i) : ed_ex l sy qu n w = true := decide_eq_true ⟨h, h2⟩
theorem ed_exl {l sy qu : Nat → Int32} {n w : Nat} (h : ¬ ed_tl l w = n) : ed_ex l sy qu n w = false := decide_eq_false fun z => h z.1
theorem ed_exi {l sy qu : Nat → Int32} {n w : Nat} (i : Nat) (hi : i < n) (h : ¬ sy (6 * w + i) = qu i) : ed_ex l sy qu n w = false := decide_eq_false fun z => h (z.2 i hi)
