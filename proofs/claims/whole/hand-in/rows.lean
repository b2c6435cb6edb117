section
-- rows pasted from the rows to paste
theorem pk_us {f : Nat → Int32} {k : Nat} {x : Int32} : upd f k x k = x := if_pos rfl
theorem pk_un {f : Nat → Int32} {k j : Nat} {x : Int32} (h : j ≠ k) : upd f k x j = f j := if_neg h
theorem pk_sub {a b : Nat} (h : b ≤ a) : nI a - nI b = nI (a - b) := by
  obtain ⟨c, rfl⟩ : ∃ c, a = c + b := ⟨a - b, by omega⟩
  rw [← nI_add, Int32.add_sub_cancel, Nat.add_sub_cancel]
theorem pk_m1 (n : Nat) : nI (n + 1) + (-1) = nI n := by
  rw [← nI_1, Int32.add_assoc, show (1 : Int32) + (-1) = 0 from rfl, Int32.add_zero]
theorem pk_mul (a b : Nat) : nI a * nI b = nI (a * b) := (Int32.ofNat_mul a b).symm
theorem pk_ix (x : Int32) {n : Nat} (hn : n < 2 ^ 31) : x < 0 ∨ nI n ≤ x ∨ ∃ j : Nat, j < n ∧ x = nI j := by
  by_cases h : x < 0
  · exact Or.inl h
  · obtain ⟨j, hj, rfl⟩ := nI_of h
    by_cases h2 : j < n
    · exact Or.inr (Or.inr ⟨j, h2, rfl⟩)
    · exact Or.inr (Or.inl (nI_le (by omega) hj))
theorem pk_le {x y : Int32} {A B : Prop} (a b : Nat) (f : a ≤ b → A) (g : b < a → B) (hx : x = nI a := by rfl) (hy : y = nI b := by rfl) (ha : a < 2 ^ 31 := by omega) (hb : b < 2 ^ 31 := by omega) : (x ≤ y → A) ∧ (¬ x ≤ y → B) := by
  subst hx hy
  rw [nI_leI ha hb]
  exact ⟨f, fun z => g (by omega)⟩
theorem pk_lt {x y : Int32} {A B : Prop} (a b : Nat) (f : a < b → A) (g : b ≤ a → B) (hx : x = nI a := by rfl) (hy : y = nI b := by rfl) (ha : a < 2 ^ 31 := by omega) (hb : b < 2 ^ 31 := by omega) : (x < y → A) ∧ (¬ x < y → B) := by
  subst hx hy
  rw [nI_ltI ha hb]
  exact ⟨f, fun z => g (by omega)⟩
theorem pk_eq {x y : Int32} {A B : Prop} (a b : Nat) (f : a = b → A) (g : a ≠ b → B) (hx : x = nI a := by rfl) (hy : y = nI b := by rfl) (ha : a < 2 ^ 31 := by omega) (hb : b < 2 ^ 31 := by omega) : (x = y → A) ∧ (¬ x = y → B) := by
  subst hx hy
  rw [nI_eq ha hb]
  exact ⟨f, g⟩
theorem pk_in {x : Int32} (n N : Nat) (h : n < N) (hx : x = nI n := by rfl) (hN : N < 2 ^ 31 := by omega) : vp_in x N := by
  subst hx
  exact vp_in_nI h hN
theorem pk_cl {x : Int32} (n : Nat) (hx : x = nI n := by rfl) (h : n < 2 ^ 31 := by omega) : x.toNatClampNeg = n := by
  subst hx
  exact nI_clamp h
theorem pk_loop {σ : Type} (W : Nat → Nat → σ → Prop) (I : Nat → σ → Prop) (e i0 : Nat) (s : σ) (hi : i0 ≤ e) (h0 : I i0 s) (hx : ∀ n s, I e s → W (n + 1) e s)
    (hs : ∀ n i s, i < e → I i s → (∀ s', I (i + 1) s' → W n (i + 1) s') → W (n + 1) i s) : ∃ n, W n i0 s :=
  ⟨e + 1, loop_i W I e hx hs (e + 1) i0 s hi (by omega) h0⟩
def bt (x : Int32) (i : Nat) : Bool := x.toBitVec.getLsbD i
theorem b_ext {x y : Int32} (h : ∀ i, i < 32 → bt x i = bt y i) : x = y := Int32.toBitVec_inj.mp (BitVec.eq_of_getLsbD_eq (fun i hi => h i hi))
theorem b_or (x y : Int32) (i : Nat) : bt (x ||| y) i = (bt x i || bt y i) := by unfold bt; rw [Int32.toBitVec_or, BitVec.getLsbD_or]
theorem b_and (x y : Int32) (i : Nat) : bt (x &&& y) i = (bt x i && bt y i) := by unfold bt; rw [Int32.toBitVec_and, BitVec.getLsbD_and]
theorem b_0 (i : Nat) : bt 0 i = false := BitVec.getLsbD_zero
theorem s_l : ∀ n, n < 32 → ((nI n &&& 31).toBitVec.smod 32).toNat = n := by decide +kernel
theorem b_sshr (n : Nat) (hn : n < 32) (x : Int32) {i : Nat} (hi : i < 32) : bt (x >>> (nI n &&& 31)) i = if n + i < 32 then bt x (n + i) else bt x 31 := by
  unfold bt
  rw [Int32.toBitVec_shiftRight]
  show (x.toBitVec.sshiftRight ((nI n &&& 31).toBitVec.smod 32).toNat).getLsbD i = _
  rw [s_l n hn, BitVec.getLsbD_sshiftRight, BitVec.msb_eq_getLsbD_last]
  simp [hi]
/-! the pure picture: costs, typos, found, bits, counts, order, common beginning -/
def ed_ch (i : Nat) : Nat := if i = 0 then 2 else 1
def ed_row (r : Nat → Nat) (c : Nat) (x : Int32) (s : Nat → Int32) : Nat → Nat
  | 0 => r 0 + c
  | j + 1 => min (ed_row r c x s j + 1) (min (r j + (if x = s j then 0 else c)) (r (j + 1) + c))
def ed_c (q s : Nat → Int32) : Nat → Nat → Nat
  | 0 => fun j => 2 * j
  | i + 1 => ed_row (ed_c q s i) (ed_ch i) (q i) s
def ed_m (r : Nat → Nat) : Nat → Nat
  | 0 => r 0
  | m + 1 => min (ed_m r m) (r (m + 1))
theorem ed_ch2 (i : Nat) : ed_ch i ≤ 2 := by unfold ed_ch; split <;> omega
theorem ed_c0 (q s : Nat → Int32) (j : Nat) : ed_c q s 0 j = 2 * j := rfl
theorem ed_cz (q s : Nat → Int32) (i : Nat) : ed_c q s (i + 1) 0 = ed_c q s i 0 + ed_ch i := rfl
theorem ed_cs (q s : Nat → Int32) (i j : Nat) : ed_c q s (i + 1) (j + 1) = min (ed_c q s (i + 1) j + 1) (min (ed_c q s i j + (if q i = s j then 0 else ed_ch i)) (ed_c q s i (j + 1) + ed_ch i)) := rfl
theorem ed_rowle (r : Nat → Nat) (c : Nat) (x : Int32) (s : Nat → Int32) (j : Nat) : ed_row r c x s j ≤ r j + c := by
  cases j with
  | zero => exact Nat.le_refl _
  | succ j =>
    show min _ (min _ (r (j + 1) + c)) ≤ _
    omega
theorem ed_cle (q s : Nat → Int32) (i j : Nat) : ed_c q s i j ≤ 2 * i + 2 * j := by
  induction i with
  | zero => rw [ed_c0]; omega
  | succ i ih =>
    have h : ed_c q s (i + 1) j ≤ ed_c q s i j + ed_ch i := ed_rowle (ed_c q s i) (ed_ch i) (q i) s j
    have h2 := ed_ch2 i
    omega
theorem ed_ms (r : Nat → Nat) (m : Nat) : ed_m r (m + 1) = min (ed_m r m) (r (m + 1)) := rfl
theorem ed_mle (r : Nat → Nat) (m : Nat) : ed_m r m ≤ r 0 := by
  induction m with
  | zero => exact Nat.le_refl _
  | succ m ih => rw [ed_ms]; omega
def ed_tl (l : Nat → Int32) (w : Nat) : Nat := (l w).toNatClampNeg
def ed_ok (l : Nat → Int32) : Prop := ∀ w, ∃ m, m ≤ 6 ∧ l w = nI m
theorem ed_ok1 {l : Nat → Int32} (h : ed_ok l) (w : Nat) : l w = nI (ed_tl l w) := by
  obtain ⟨m, hm, e⟩ := h w
  unfold ed_tl
  rw [e, nI_clamp (by omega)]
theorem ed_ok2 {l : Nat → Int32} (h : ed_ok l) (w : Nat) : ed_tl l w ≤ 6 := by
  obtain ⟨m, hm, e⟩ := h w
  unfold ed_tl
  rw [e, nI_clamp (by omega)]
  exact hm
theorem ed_okU {l : Nat → Int32} (h : ed_ok l) (w m : Nat) (hm : m ≤ 6) : ed_ok (upd l w (nI m)) := by
  intro j
  by_cases e : j = w
  · rw [e, pk_us]; exact ⟨m, hm, rfl⟩
  · rw [pk_un e]; exact h j
def ed_ty (l sy qu : Nat → Int32) (n w : Nat) : Nat := ed_m (ed_c qu (fun j => sy (6 * w + j)) n) (ed_tl l w)
theorem ed_tyle (l sy qu : Nat → Int32) (n w : Nat) : ed_ty l sy qu n w ≤ 2 * n := by
  have h1 := ed_mle (ed_c qu (fun j => sy (6 * w + j)) n) (ed_tl l w)
  have h2 := ed_cle qu (fun j => sy (6 * w + j)) n 0
  unfold ed_ty
  omega
def ed_fg (n : Nat) : Nat := if n < 3 then 0 else if n < 5 then 1 else 2
theorem ed_fgle (n : Nat) : ed_fg n ≤ 2 := by
  unfold ed_fg
  split
  · omega
  · split <;> omega
def ed_wd (l : Nat → Int32) (w : Nat) : Bool := decide (0 < ed_tl l w)
def ed_fd (l sy qu : Nat → Int32) (n w : Nat) : Bool := decide (0 < ed_tl l w ∧ ed_ty l sy qu n w ≤ ed_fg n)
def ed_bI : Bool → Int32
  | true => 1
  | false => 0
theorem ed_nb (b : Bool) : narrow .boolean (.int (ed_bI b)) = .int (ed_bI b) := by cases b <;> rfl
theorem ed_b0 (b : Bool) : ed_bI b = 0 ↔ b = false := by cases b <;> decide
theorem ed_b1 (b : Bool) : ed_bI b = 1 ↔ b = true := by cases b <;> decide
theorem ed_ff {b : Bool} (h : ¬ b = true) : b = false := by cases b <;> first | rfl | exact absurd rfl h
theorem ed_tt {b : Bool} (h : ¬ b = false) : b = true := by cases b <;> first | rfl | exact absurd rfl h
theorem ed_tf {b : Bool} (h : b = true) : ¬ b = false := by cases b <;> first | decide | exact nomatch h
def ed_cn (b : Nat → Bool) : Nat → Nat
  | 0 => 0
  | k + 1 => if b k = true then ed_cn b k + 1 else ed_cn b k
theorem ed_cnt {b : Nat → Bool} {k : Nat} (h : b k = true) : ed_cn b (k + 1) = ed_cn b k + 1 := if_pos h
theorem ed_cnf {b : Nat → Bool} {k : Nat} (h : b k = false) : ed_cn b (k + 1) = ed_cn b k := if_neg (by rw [h]; decide)
theorem ed_cnle (b : Nat → Bool) (k : Nat) : ed_cn b k ≤ k := by
  induction k with
  | zero => exact Nat.le_refl _
  | succ k ih =>
    by_cases h : b k = true
    · rw [ed_cnt h]; omega
    · rw [ed_cnf (ed_ff h)]; omega
theorem ed_cn0 (b : Nat → Bool) (k : Nat) : ed_cn b k = 0 ↔ ∀ v, v < k → b v = false := by
  induction k with
  | zero => exact ⟨fun _ v hv => absurd hv (Nat.not_lt_zero v), fun _ => rfl⟩
  | succ k ih =>
    by_cases h : b k = true
    · rw [ed_cnt h]
      exact ⟨fun z => absurd z (Nat.succ_ne_zero _), fun z => absurd (z k (Nat.lt_succ_self k)) (ed_tf h)⟩
    · rw [ed_cnf (ed_ff h), ih]
      refine ⟨fun z v hv => ?_, fun z v hv => z v (by omega)⟩
      by_cases e : v = k
      · rw [e]; exact ed_ff h
      · exact z v (by omega)
def ed_bx (b : Nat → Bool) : Nat → Int32
  | 0 => 0
  | k + 1 => if b k = true then ed_bx b k ||| ((1 : Int32) <<< (nI k &&& 31)) else ed_bx b k
theorem ed_bxt {b : Nat → Bool} {k : Nat} (h : b k = true) : ed_bx b (k + 1) = ed_bx b k ||| ((1 : Int32) <<< (nI k &&& 31)) := if_pos h
theorem ed_bxf {b : Nat → Bool} {k : Nat} (h : b k = false) : ed_bx b (k + 1) = ed_bx b k := if_neg (by rw [h]; decide)
theorem ed_b1k : ∀ k, k < 32 → ∀ i, i < 32 → bt ((1 : Int32) <<< (nI k &&& 31)) i = decide (i = k) := by decide +kernel
theorem ed_b1b : ∀ i, i < 32 → bt 1 i = decide (i = 0) := by decide +kernel
theorem ed_bxb (b : Nat → Bool) (k : Nat) (hk : k ≤ 32) (i : Nat) (hi : i < 32) : bt (ed_bx b k) i = (decide (i < k) && b i) := by
  induction k with
  | zero => rw [show ed_bx b 0 = 0 from rfl, b_0]; simp
  | succ k ih =>
    have ih' := ih (by omega)
    by_cases h : b k = true
    · rw [ed_bxt h, b_or, ih', ed_b1k k (by omega) i hi]
      by_cases e : i = k
      · subst e; simp [h]
      · have h1 : decide (i < k + 1) = decide (i < k) := decide_eq_decide.mpr (by omega)
        rw [h1, decide_eq_false e, Bool.or_false]
    · rw [ed_bxf (ed_ff h), ih']
      by_cases e : i = k
      · subst e; rw [ed_ff h, Bool.and_false, Bool.and_false]
      · have h1 : decide (i < k + 1) = decide (i < k) := decide_eq_decide.mpr (by omega)
        rw [h1]
theorem ed_bx0 (b : Nat → Bool) (k : Nat) (hk : k ≤ 32) : ed_bx b k = 0 ↔ ∀ v, v < k → b v = false := by
  constructor
  · intro h v hv
    have h2 := ed_bxb b k hk v (by omega)
    rw [h, b_0, decide_eq_true hv, Bool.true_and] at h2
    exact h2.symm
  · intro h
    refine b_ext fun i hi => ?_
    rw [ed_bxb b k hk i hi, b_0]
    by_cases e : i < k
    · rw [h i e, Bool.and_false]
    · rw [decide_eq_false e, Bool.false_and]
theorem ed_bxcn (b : Nat → Bool) : ed_bx b 10 = 0 ↔ ed_cn b 10 = 0 := by rw [ed_bx0 b 10 (by omega), ed_cn0]
theorem ed_sh (x : Int32) (w : Nat) (hw : w < 32) : (x >>> (nI w &&& 31)) &&& 1 = ed_bI (bt x w) := by
  refine b_ext fun i hi => ?_
  rw [b_and, ed_b1b i hi]
  by_cases e : i = 0
  · subst e
    rw [b_sshr w hw x hi, if_pos (by omega), Nat.add_zero, decide_eq_true rfl, Bool.and_true]
    cases bt x w
    · exact (b_0 0).symm
    · exact (ed_b1b 0 (by omega)).symm
  · rw [decide_eq_false e, Bool.and_false]
    cases bt x w
    · exact (b_0 i).symm
    · exact ((ed_b1b i hi).trans (decide_eq_false e)).symm
theorem ed_bit (b : Nat → Bool) (w : Nat) (hw : w < 10) : (ed_bx b 10 >>> (nI w &&& 31)) &&& 1 = ed_bI (b w) := by
  rw [ed_sh _ w (by omega), ed_bxb b 10 (by omega) w (by omega), decide_eq_true hw, Bool.true_and]
def ed_ex (l sy qu : Nat → Int32) (n w : Nat) : Bool := decide (ed_tl l w = n ∧ ∀ i, i < n → sy (6 * w + i) = qu i)
def ed_gb (l sy wt qu : Nat → Int32) (n v w : Nat) : Bool :=
  if ed_ty l sy qu n v = ed_ty l sy qu n w then
    if ed_ex l sy qu n v = ed_ex l sy qu n w then
      if ed_tl l v = ed_tl l w then
        if wt v = wt w then decide (v < w) else decide (wt w < wt v)
      else decide (ed_tl l v < ed_tl l w)
    else ed_ex l sy qu n v
  else decide (ed_ty l sy qu n v < ed_ty l sy qu n w)
def ed_be (l sy wt qu : Nat → Int32) (n w v : Nat) : Bool := decide (v ≠ w) && (ed_fd l sy qu n v && ed_gb l sy wt qu n v w)
def ed_cb (l sy wt qu : Nat → Int32) (n w : Nat) : Nat := ed_cn (ed_be l sy wt qu n w) 10
def ed_at (p : Nat → Bool) : Nat → Nat → Int32
  | 0, _ => -1
  | d + 1, w => if p w = true then nI w else ed_at p d (w + 1)
def ed_hq (qu : Nat → Int32) (n : Nat) : Nat → Nat → Int32
  | 0 => qu
  | s + 1 => upd (ed_hq qu n s) n (nI s)
def ed_hb (l sy qu : Nat → Int32) (n s : Nat) : Bool := decide (0 < ed_cn (ed_fd l sy (ed_hq qu n (s + 1)) (n + 1)) 10)
def ed_S (l sy : Nat → Int32) (v w t : Nat) : Prop := t ≤ ed_tl l v ∧ t ≤ ed_tl l w ∧ ∀ i, i < t → sy (6 * v + i) = sy (6 * w + i)
def ed_G (b : Nat → Bool) (l sy : Nat → Int32) (t : Nat) : Prop := ∀ v w, v < 10 → w < 10 → b v = true → b w = true → ed_S l sy v w t
def ed_cm (b : Nat → Bool) (l sy : Nat → Int32) (r : Nat) : Prop := ((∀ v, v < 10 → b v = false) → r = 0) ∧ (∀ v, v < 10 → b v = true → ∀ t, t ≤ r ↔ ed_G b l sy t)
theorem ed_cmu {b : Nat → Bool} {l sy : Nat → Int32} {r r' : Nat} (h : ed_cm b l sy r) (h' : ed_cm b l sy r') : r' = r := by
  by_cases z : ∀ v, v < 10 → b v = false
  · rw [h.1 z, h'.1 z]
  · have ⟨v, hv⟩ := Classical.not_forall.mp z
    have ⟨h1, h2⟩ := Classical.not_imp.mp hv
    have a := h.2 v h1 (ed_tt h2)
    have a' := h'.2 v h1 (ed_tt h2)
    have e1 := (a r').mpr ((a' r').mp (Nat.le_refl _))
    have e2 := (a' r).mpr ((a r).mp (Nat.le_refl _))
    omega
end
section
/-! steps of the two tables of costs, and indexes -/
theorem ed_s1 {q s : Nat → Int32} {i j : Nat} (h : q i = s j) : ed_c q s (i + 1) (j + 1) = min (ed_c q s (i + 1) j + 1) (min (ed_c q s i j) (ed_c q s i (j + 1) + ed_ch i)) := by
  rw [ed_cs, if_pos h]; rfl
theorem ed_s2 {q s : Nat → Int32} {i j : Nat} (h : ¬ q i = s j) : ed_c q s (i + 1) (j + 1) = min (ed_c q s (i + 1) j + 1) (min (ed_c q s i j + ed_ch i) (ed_c q s i (j + 1) + ed_ch i)) := by
  rw [ed_cs, if_neg h]
theorem ed_ix1 (i j : Nat) : (7 : Int32) * nI (i + 1) - 7 + nI j = nI (7 * i + j) := by
  show nI 7 * nI (i + 1) - nI 7 + nI j = _
  rw [pk_mul, pk_sub (by omega), nI_add]
  exact congrArg nI (by omega)
theorem ed_ix2 (i j : Nat) : (7 : Int32) * nI i + nI (j + 1) - 1 = nI (7 * i + j) := by
  show nI 7 * nI i + nI (j + 1) - nI 1 = _
  rw [pk_mul, nI_add, pk_sub (by omega)]
  exact congrArg nI (by omega)
theorem ed_ix3 (i j : Nat) : (7 : Int32) * nI (i + 1) + nI (j + 1) - 8 = nI (7 * i + j) := by
  show nI 7 * nI (i + 1) + nI (j + 1) - nI 8 = _
  rw [pk_mul, nI_add, pk_sub (by omega)]
  exact congrArg nI (by omega)
theorem ed_ix4 (i j : Nat) : (7 : Int32) * nI i + nI j = nI (7 * i + j) := by
  show nI 7 * nI i + nI j = _
  rw [pk_mul, nI_add]
theorem ed_iy0 (w : Nat) : (6 : Int32) * nI w = nI (6 * w) := pk_mul 6 w
theorem ed_iy1 (w j : Nat) : (6 : Int32) * nI w + nI j = nI (6 * w + j) := by
  show nI 6 * nI w + nI j = _
  rw [pk_mul, nI_add]
theorem ed_iy2 (w j : Nat) : (6 : Int32) * nI w + nI (j + 1) - 1 = nI (6 * w + j) := by
  show nI 6 * nI w + nI (j + 1) - nI 1 = _
  rw [pk_mul, nI_add, pk_sub (by omega)]
  exact congrArg nI (by omega)
theorem ed_iz0 (w : Nat) : nI w * (6 : Int32) = nI (6 * w) := by
  show nI w * nI 6 = _
  rw [pk_mul, Nat.mul_comm]
theorem ed_iz1 (w j : Nat) : nI w * (6 : Int32) + nI j = nI (6 * w + j) := by rw [ed_iz0, nI_add]
theorem ed_iz2 (w j : Nat) : nI w * (6 : Int32) + nI (j + 1) - 1 = nI (6 * w + j) := by
  rw [ed_iz0]
  show nI (6 * w) + nI (j + 1) - nI 1 = _
  rw [nI_add, pk_sub (by omega)]
  exact congrArg nI (by omega)
theorem ed_i2 (j : Nat) : nI j * (2 : Int32) = nI (2 * j) := by
  show nI j * nI 2 = _
  rw [pk_mul, Nat.mul_comm]
def ed_D (q s : Nat → Int32) (m i j : Nat) (cs : Nat → Int32) : Prop := (∀ a b, a < i → b ≤ m → cs (7 * a + b) = nI (ed_c q s a b)) ∧ ∀ b, b < j → cs (7 * i + b) = nI (ed_c q s i b)
theorem ed_Ds {q s : Nat → Int32} {m i j : Nat} {cs : Nat → Int32} (h : ed_D q s m i j cs) (hj : j ≤ m) (hm : m ≤ 6) : ed_D q s m i (j + 1) (upd cs (7 * i + j) (nI (ed_c q s i j))) := by
  refine ⟨fun a b ha hb => ?_, fun b hb => ?_⟩
  · rw [pk_un (by omega)]; exact h.1 a b ha hb
  · by_cases e : b = j
    · rw [e, pk_us]
    · rw [pk_un (by omega)]; exact h.2 b (by omega)
theorem ed_Dn {q s : Nat → Int32} {m i : Nat} {cs : Nat → Int32} (h : ed_D q s m i (m + 1) cs) : ed_D q s m (i + 1) 0 cs := by
  refine ⟨fun a b ha hb => ?_, fun b hb => absurd hb (Nat.not_lt_zero b)⟩
  by_cases e : a = i
  · rw [e]; exact h.2 b (by omega)
  · exact h.1 a b (by omega) hb
theorem ed_D0 {q s : Nat → Int32} {m : Nat} {cs : Nat → Int32} : ed_D q s m 0 0 cs := ⟨fun a _ ha => absurd ha (Nat.not_lt_zero a), fun b hb => absurd hb (Nat.not_lt_zero b)⟩
def ed_E (q s : Nat → Int32) (m i j : Nat) (cs : Nat → Int32) : Prop := (∀ t, t < j → cs t = nI (ed_c q s (i + 1) t)) ∧ ∀ t, j ≤ t → t ≤ m → cs t = nI (ed_c q s i t)
theorem ed_Es {q s : Nat → Int32} {m i j : Nat} {cs : Nat → Int32} (h : ed_E q s m i j cs) : ed_E q s m i (j + 1) (upd cs j (nI (ed_c q s (i + 1) j))) := by
  refine ⟨fun t ht => ?_, fun t h1 h2 => ?_⟩
  · by_cases e : t = j
    · rw [e, pk_us]
    · rw [pk_un e]; exact h.1 t (by omega)
  · rw [pk_un (by omega)]; exact h.2 t (by omega) h2
theorem ed_E0 {q s : Nat → Int32} {m i : Nat} {cs : Nat → Int32} (h : ∀ t, t ≤ m → cs t = nI (ed_c q s i t)) : ed_E q s m i 0 cs := ⟨fun t ht => absurd ht (Nat.not_lt_zero t), fun t _ h2 => h t h2⟩
theorem ed_En {q s : Nat → Int32} {m i : Nat} {cs : Nat → Int32} (h : ed_E q s m i (m + 1) cs) : ∀ t, t ≤ m → cs t = nI (ed_c q s (i + 1) t) := fun t ht => h.1 t (by omega)
theorem ed_fdt {l sy qu : Nat → Int32} {n w : Nat} (h0 : 0 < ed_tl l w) (h : ed_ty l sy qu n w ≤ ed_fg n) : ed_fd l sy qu n w = true := decide_eq_true ⟨h0, h⟩
theorem ed_fdf {l sy qu : Nat → Int32} {n w : Nat} (h : ¬ ed_ty l sy qu n w ≤ ed_fg n) : ed_fd l sy qu n w = false := decide_eq_false fun z => h z.2
theorem ed_fd0 {l sy qu : Nat → Int32} {n w : Nat} (h : ed_tl l w = 0) : ed_fd l sy qu n w = false := decide_eq_false fun z => by have := z.1; omega
theorem ed_wdt {l : Nat → Int32} {w : Nat} (h0 : 0 < ed_tl l w) : ed_wd l w = true := decide_eq_true h0
theorem ed_wdf {l : Nat → Int32} {w : Nat} (h0 : ed_tl l w = 0) : ed_wd l w = false := decide_eq_false (by omega)
theorem ed_wd1 {l : Nat → Int32} {w : Nat} (h : ed_wd l w = true) : 0 < ed_tl l w := of_decide_eq_true h
theorem ed_wd0 {l : Nat → Int32} {w : Nat} (h : ed_wd l w = false) : ed_tl l w = 0 := by
  have := of_decide_eq_false h
  omega
theorem ed_att {p : Nat → Bool} {d w : Nat} (h : p w = true) : ed_at p (d + 1) w = nI w := if_pos h
theorem ed_atf {p : Nat → Bool} {d w : Nat} (h : p w = false) : ed_at p (d + 1) w = ed_at p d (w + 1) := if_neg (by rw [h]; decide)
theorem ed_beq {l sy wt qu : Nat → Int32} {n w v : Nat} (h : v = w) : ed_be l sy wt qu n w v = false := by
  unfold ed_be
  rw [decide_eq_false (fun z => z h), Bool.false_and]
theorem ed_bef {l sy wt qu : Nat → Int32} {n w v : Nat} (h : ed_fd l sy qu n v = false) : ed_be l sy wt qu n w v = false := by
  unfold ed_be
  rw [h, Bool.false_and, Bool.and_false]
theorem ed_ben {l sy wt qu : Nat → Int32} {n w v : Nat} (h : ¬ v = w) (h2 : ed_fd l sy qu n v = true) : ed_be l sy wt qu n w v = ed_gb l sy wt qu n v w := by
  unfold ed_be
  rw [decide_eq_true h, h2, Bool.true_and, Bool.true_and]
theorem ed_ext {l sy qu : Nat → Int32} {n w : Nat} (h : ed_tl l w = n) (h2 : ∀ i, i < n → sy (6 * w + i) = qu i) : ed_ex l sy qu n w = true := decide_eq_true ⟨h, h2⟩
theorem ed_exl {l sy qu : Nat → Int32} {n w : Nat} (h : ¬ ed_tl l w = n) : ed_ex l sy qu n w = false := decide_eq_false fun z => h z.1
theorem ed_exi {l sy qu : Nat → Int32} {n w : Nat} (i : Nat) (hi : i < n) (h : ¬ sy (6 * w + i) = qu i) : ed_ex l sy qu n w = false := decide_eq_false fun z => h (z.2 i hi)
end
section
/-! the common beginning: X goes from the first found word on, Y over all pairs -/
theorem ed_Sr {l sy : Nat → Int32} {v t : Nat} : ed_S l sy v v t ↔ t ≤ ed_tl l v := ⟨fun h => h.1, fun h => ⟨h, h, fun _ _ => rfl⟩⟩
def ed_X (b : Nat → Bool) (l sy : Nat → Int32) (w f sN : Nat) : Prop := f < w ∧ b f = true ∧ ∀ t, t ≤ sN ↔ ∀ v, v < w → b v = true → ed_S l sy f v t
theorem ed_X1 {b : Nat → Bool} {l sy : Nat → Int32} {w : Nat} (hb : b w = true) (h0 : ∀ v, v < w → b v = false) : ed_X b l sy (w + 1) w (ed_tl l w) := by
  refine ⟨Nat.lt_succ_self w, hb, fun t => ⟨fun h v hv hbv => ?_, fun h => (h w (Nat.lt_succ_self w) hb).1⟩⟩
  by_cases e : v = w
  · rw [e]; exact ed_Sr.mpr h
  · exact absurd (h0 v (by omega)) (ed_tf hbv)
theorem ed_X2 {b : Nat → Bool} {l sy : Nat → Int32} {w f sN : Nat} (hb : b w = false) (h : ed_X b l sy w f sN) : ed_X b l sy (w + 1) f sN := by
  refine ⟨Nat.lt_succ_of_lt h.1, h.2.1, fun t => ⟨fun ht v hv hbv => ?_, fun ht => (h.2.2 t).mpr fun v hv => ht v (Nat.lt_succ_of_lt hv)⟩⟩
  by_cases e : v = w
  · rw [e] at hbv; exact absurd hb (ed_tf hbv)
  · exact (h.2.2 t).mp ht v (by omega) hbv
theorem ed_X3 {b : Nat → Bool} {l sy : Nat → Int32} {w f sN s' : Nat} (hb : b w = true) (h : ed_X b l sy w f sN) (hs : ∀ t, t ≤ s' ↔ (t ≤ sN ∧ t ≤ ed_tl l w ∧ ∀ i, i < t → sy (6 * f + i) = sy (6 * w + i))) : ed_X b l sy (w + 1) f s' := by
  refine ⟨Nat.lt_succ_of_lt h.1, h.2.1, fun t => ⟨fun ht v hv hbv => ?_, fun ht => ?_⟩⟩
  · have ⟨a1, a2, a3⟩ := (hs t).mp ht
    have a4 := (h.2.2 t).mp a1
    by_cases e : v = w
    · rw [e]; exact ⟨(a4 f h.1 h.2.1).1, a2, a3⟩
    · exact a4 v (by omega) hbv
  · have a5 := ht w (Nat.lt_succ_self w) hb
    exact (hs t).mpr ⟨(h.2.2 t).mpr fun v hv => ht v (Nat.lt_succ_of_lt hv), a5.2.1, a5.2.2⟩
theorem ed_X4 {b : Nat → Bool} {l sy : Nat → Int32} {f sN : Nat} (h : ed_X b l sy 10 f sN) : ed_cm b l sy sN := by
  refine ⟨fun z => absurd (z f h.1) (ed_tf h.2.1), fun v hv hbv t => ⟨fun ht a c ha hc hba hbc => ?_, fun ht => (h.2.2 t).mpr fun a ha hba => ht f a h.1 ha h.2.1 hba⟩⟩
  have a4 := (h.2.2 t).mp ht
  have p := a4 a ha hba
  have q := a4 c hc hbc
  exact ⟨p.2.1, q.2.1, fun i hi => (p.2.2 i hi).symm.trans (q.2.2 i hi)⟩
theorem ed_X5 {b : Nat → Bool} {l sy : Nat → Int32} (h : ∀ v, v < 10 → b v = false) : ed_cm b l sy 0 := ⟨fun _ => rfl, fun v hv hbv => absurd (h v hv) (ed_tf hbv)⟩
def ed_Y (b : Nat → Bool) (l sy : Nat → Int32) (n0 v w r : Nat) : Prop := ∀ t, t ≤ r ↔ (t ≤ n0 ∧ ∀ a c, c < 10 → (a < v ∨ (a = v ∧ c < w)) → b a = true → b c = true → ed_S l sy a c t)
theorem ed_Y0 {b : Nat → Bool} {l sy : Nat → Int32} {n0 : Nat} : ed_Y b l sy n0 0 0 n0 := fun t => ⟨fun h => ⟨h, fun a c _ z => by omega⟩, fun h => h.1⟩
theorem ed_Y1 {b : Nat → Bool} {l sy : Nat → Int32} {n0 v w r : Nat} (hb : ¬ (b v = true ∧ b w = true)) (h : ed_Y b l sy n0 v w r) : ed_Y b l sy n0 v (w + 1) r := by
  intro t
  refine (h t).trans ⟨fun ⟨h1, h2⟩ => ⟨h1, fun a c hc z ha hcb => ?_⟩, fun ⟨h1, h2⟩ => ⟨h1, fun a c hc z => h2 a c hc (by omega)⟩⟩
  by_cases e : a = v ∧ c = w
  · rw [e.1] at ha; rw [e.2] at hcb; exact absurd ⟨ha, hcb⟩ hb
  · exact h2 a c hc (by omega) ha hcb
theorem ed_Y2 {b : Nat → Bool} {l sy : Nat → Int32} {n0 v w r s : Nat} (hw : w < 10) (h1 : b v = true) (h2 : b w = true) (hs : ∀ t, t ≤ s ↔ ed_S l sy v w t) (h : ed_Y b l sy n0 v w r) : ed_Y b l sy n0 v (w + 1) (min r s) := by
  intro t
  constructor
  · intro ht
    have ⟨a1, a2⟩ := (h t).mp (by omega)
    refine ⟨a1, fun a c hc z ha hcb => ?_⟩
    by_cases e : a = v ∧ c = w
    · rw [e.1, e.2]; exact (hs t).mp (by omega)
    · exact a2 a c hc (by omega) ha hcb
  · intro ⟨a1, a2⟩
    have e1 := (h t).mpr ⟨a1, fun a c hc z => a2 a c hc (by omega)⟩
    have e2 := (hs t).mpr (a2 v w hw (by omega) h1 h2)
    omega
theorem ed_Y3 {b : Nat → Bool} {l sy : Nat → Int32} {n0 v r : Nat} (h : ed_Y b l sy n0 v 10 r) : ed_Y b l sy n0 (v + 1) 0 r := by
  intro t
  exact (h t).trans ⟨fun ⟨h1, h2⟩ => ⟨h1, fun a c hc z => h2 a c hc (by omega)⟩, fun ⟨h1, h2⟩ => ⟨h1, fun a c hc z => h2 a c hc (by omega)⟩⟩
theorem ed_Y4 {b : Nat → Bool} {l sy : Nat → Int32} {r : Nat} (h0 : ∀ v, v < 10 → b v = false) (h : ed_Y b l sy 0 10 0 r) : ed_cm b l sy r :=
  ⟨fun _ => by have := ((h r).mp (Nat.le_refl r)).1; omega, fun v hv hbv => absurd (h0 v hv) (ed_tf hbv)⟩
theorem ed_Y5 {b : Nat → Bool} {l sy : Nat → Int32} {r : Nat} (hl : ed_ok l) (h0 : ¬ ∀ v, v < 10 → b v = false) (h : ed_Y b l sy 6 10 0 r) : ed_cm b l sy r := by
  refine ⟨fun z => absurd z h0, fun v hv hbv t => (h t).trans ⟨fun ⟨h1, h2⟩ a c ha hc => h2 a c hc (by omega), fun hG => ⟨?_, fun a c hc z => hG a c (by omega) hc⟩⟩⟩
  have := (hG v v hv hv hbv hbv).1
  have := ed_ok2 hl v
  omega
end
section
/-! X: word, forgiven, the costs in place -/
theorem ed_cs3 (s : Int32) : s < 0 ∨ (¬ s < 0 ∧ 4 ≤ s ∧ 3 < s ∧ ¬ s ≤ 3) ∨ (¬ s < 0 ∧ ¬ 4 ≤ s ∧ ¬ 3 < s ∧ s ≤ 3) := by
  have e0 : (0 : Int32).toInt = 0 := by decide
  have e3 : (3 : Int32).toInt = 3 := by decide
  have e4 : (4 : Int32).toInt = 4 := by decide
  simp only [Int32.lt_iff_toInt_lt, Int32.le_iff_toInt_le, e0, e3, e4]
  omega
theorem ed_cs9 (s : Int32) : s < 0 ∨ (¬ s < 0 ∧ 9 < s ∧ ¬ s ≤ 9) ∨ (¬ s < 0 ∧ ¬ 9 < s ∧ s ≤ 9) := by
  have e0 : (0 : Int32).toInt = 0 := by decide
  have e9 : (9 : Int32).toInt = 9 := by decide
  simp only [Int32.lt_iff_toInt_lt, Int32.le_iff_toInt_le, e0, e9]
  omega
def ed_out (x : Int32) : Prop := x < 0 ∨ (¬ x < 0 ∧ 10 ≤ x)
theorem ed_cw (x : Int32) : ed_out x ∨ ∃ j : Nat, j < 10 ∧ x = nI j := by
  by_cases h : x < 0
  · exact Or.inl (Or.inl h)
  · rcases pk_ix x (n := 10) (by decide) with h1 | h1 | h1
    · exact absurd h1 h
    · exact Or.inl (Or.inr ⟨h, h1⟩)
    · exact Or.inr h1
theorem ed_la {l : Nat → Int32} (hl : ed_ok l) {w : Nat} (hw : w < 10) : l (nI w).toNatClampNeg = nI (ed_tl l w) := by
  rw [nI_clamp (by omega)]
  exact ed_ok1 hl w
theorem ed_w10 {w : Nat} (hw : w < 10) : ¬ (10 : Int32) ≤ nI w := nI_ge (b := 10) hw (by decide)
theorem ed_10 : (10 : Int32) ≤ nI 10 := nI_le (Nat.le_refl 10) (by decide)
theorem xw_isWord {post : Int32 → Prop} {ql : Int32} {sy l wt qu cs : Nat → Int32} (hl : ed_ok l) {w : Nat} (hw : w < 10) (H : post (ed_bI (ed_wd l w))) : wpX_isWord post (ql, sy, l, wt, qu, cs) (nI w) := by
  have h0 : ¬ nI w < 0 := nI_pos (by omega)
  have e := ed_la hl hw
  have hm := ed_ok2 hl w
  by_cases z : ed_tl l w = 0
  · rw [ed_wdf z] at H
    exact br_f h0 (br_f (ed_w10 hw) ⟨vp_in_nI hw (by omega), br_t (by rw [e, z]; exact Int32.le_refl _) H⟩)
  · rw [ed_wdt (by omega)] at H
    exact br_f h0 (br_f (ed_w10 hw) ⟨vp_in_nI hw (by omega), br_f (by rw [e]; exact nI_nle (by omega) (by omega)) H⟩)
theorem xw_isWordN {post : Int32 → Prop} {ql : Int32} {sy l wt qu cs : Nat → Int32} {x : Int32} (h : ed_out x) (H : post 0) : wpX_isWord post (ql, sy, l, wt, qu, cs) x := by
  rcases h with h | ⟨h, h1⟩
  · exact br_t h H
  · exact br_f h (br_t h1 H)
theorem xw_forgiven {post : Int32 → Prop} {n : Nat} (hn : n < 2 ^ 31) (H : post (nI (ed_fg n))) : wpX_forgiven post (nI n) := by
  unfold ed_fg at H
  refine pk_le 3 n (fun h3 => pk_le 5 n (fun h5 => ?_) (fun h5 => ?_)) (fun h3 => ?_)
  · rw [if_neg (by omega), if_neg (by omega)] at H; exact H
  · rw [if_neg (by omega), if_pos (by omega)] at H; exact H
  · rw [if_pos (by omega)] at H; exact H
theorem ed_z2 {w j : Nat} (hw : w < 10) (hj : j < 6) : ((nI w * (6 : Int32) + nI (j + 1)) - 1).toNatClampNeg = 6 * w + j := by
  rw [ed_iz2, nI_clamp (by omega)]
theorem ed_z2i {w j : Nat} (hw : w < 10) (hj : j < 6) : vp_in ((nI w * (6 : Int32) + nI (j + 1)) - 1) 60 := by
  rw [ed_iz2]
  exact vp_in_nI (by omega) (by omega)
theorem ed_z1 {w j : Nat} (hw : w < 10) (hj : j < 6) : (nI w * (6 : Int32) + nI j).toNatClampNeg = 6 * w + j := by
  rw [ed_iz1, nI_clamp (by omega)]
theorem ed_z1i {w j : Nat} (hw : w < 10) (hj : j < 6) : vp_in (nI w * (6 : Int32) + nI j) 60 := by
  rw [ed_iz1]
  exact vp_in_nI (by omega) (by omega)
theorem ed_cI {f : Nat → Int32} {j : Nat} (h : j < 2 ^ 31) : f (nI j).toNatClampNeg = f j := by rw [nI_clamp h]
theorem xw_deal135 {post : SX → Prop} {J : Int32 → Int32 → (Nat → Int32) → (Nat → Int32) → (Nat → Int32) → (Nat → Int32) → (Nat → Int32) → Prop} {ql : Int32} {sy l wt qu cs : Nat → Int32} {x1 x2 x3 x4 : Int32} {j P Z v : Nat} (hj : j + 1 < 7) (hP : P < 2 ^ 31) (hZ : Z < 2 ^ 31) (hv : v = min P Z)
    (HJ : J x4 (nI (j + 2)) sy l wt qu (upd cs (j + 1) (nI v))) : wX_dealWith_135 post J x1 x2 x3 x4 (nI (j + 1)) (nI P) (nI Z) ql sy l wt qu cs := by
  have hi : vp_in (nI (j + 1)) 7 := vp_in_nI hj (by omega)
  refine pk_le Z P (fun h => ⟨hi, nm_r ?_ (nm_r (nI_1 (j + 1)) HJ)⟩) (fun h => ⟨hi, nm_r ?_ (nm_r (nI_1 (j + 1)) HJ)⟩)
  · rw [nI_clamp (by omega), show v = Z by omega]
  · rw [nI_clamp (by omega), show v = P by omega]
theorem xw_deal86 {post : SX → Prop} {J : Int32 → Int32 → (Nat → Int32) → (Nat → Int32) → (Nat → Int32) → (Nat → Int32) → (Nat → Int32) → Prop} {ql : Int32} {sy l wt qu cs : Nat → Int32} {x1 x2 : Int32} {j K A U c v : Nat} (hj : j + 1 < 7) (hA : cs j = nI A) (hU : cs (j + 1) = nI U) (hK : K < 1000) (hA2 : A < 1000) (hU2 : U < 1000) (hc : c < 1000) (hv : v = min (A + 1) (min K (U + c)))
    (HJ : J (nI U) (nI (j + 2)) sy l wt qu (upd cs (j + 1) (nI v))) : wX_dealWith_86 post J x1 x2 (nI c) (nI (j + 1)) (nI K) ql sy l wt qu cs := by
  have hi : vp_in (nI (j + 1)) 7 := vp_in_nI hj (by omega)
  have hi2 : vp_in (nI (j + 1) - 1) 7 := by rw [nI_pred]; exact vp_in_nI (by omega) (by omega)
  refine ⟨hi, nm_r (e' := nI (U + c)) ?_ ⟨hi2, nm_r (e' := nI (A + 1)) ?_ ⟨hi, nm_r (e' := nI U) ?_ (pk_le (U + c) K (fun h => ?_) (fun h => ?_))⟩⟩⟩
  · rw [nI_clamp (by omega), hU, nI_add]
  · rw [nI_pred, nI_clamp (by omega), hA, nI_1]
  · rw [nI_clamp (by omega), hU]
  · exact xw_deal135 hj (by omega) (by omega) (by omega) HJ
  · exact xw_deal135 hj (by omega) (by omega) (by omega) HJ
theorem xw_dealL {post : SX → Prop} {ql : Int32} {sy l wt qu : Nat → Int32} (hl : ed_ok l) {i w : Nat} (hi : i < 6) (hw : w < 10)
    (H : ∀ cs', (∀ t, t ≤ ed_tl l w → cs' t = nI (ed_c qu (fun j => sy (6 * w + j)) (i + 1) t)) → post (ql, sy, l, wt, qu, cs')) :
    ∀ d j cs, j + d = ed_tl l w → ed_E qu (fun j => sy (6 * w + j)) (ed_tl l w) i (j + 1) cs → wX_dealWith_31 post (nI i) (nI w) (nI (ed_ch i)) ql (d + 1) (nI (ed_c qu (fun j => sy (6 * w + j)) i j)) (nI (j + 1)) sy l wt qu cs := by
  have hm := ed_ok2 hl w
  have hiw : vp_in (nI w) 10 := vp_in_nI hw (by omega)
  intro d
  induction d with
  | zero =>
    intro j cs hj hE
    have e : ed_tl l w = j := by omega
    refine ⟨hiw, br_t ?_ (H cs (ed_En (by rw [e]; rw [e] at hE; exact hE)))⟩
    rw [ed_la hl hw]
    exact nI_lt (by omega) (by omega)
  | succ d ih =>
    intro j cs hj hE
    have hA := hE.1 j (by omega)
    have hU := hE.2 (j + 1) (Nat.le_refl _) (by omega)
    have bA := ed_cle qu (fun j => sy (6 * w + j)) (i + 1) j
    have bU := ed_cle qu (fun j => sy (6 * w + j)) i (j + 1)
    have bS := ed_cle qu (fun j => sy (6 * w + j)) i j
    have bc := ed_ch2 i
    have hn : ¬ l (nI w).toNatClampNeg < nI (j + 1) := by rw [ed_la hl hw]; exact nI_nlt (by omega) (by omega)
    have eq1 : qu (nI i).toNatClampNeg = qu i := ed_cI (by omega)
    have es1 : sy ((nI w * (6 : Int32) + nI (j + 1)) - 1).toNatClampNeg = sy (6 * w + j) := by rw [ed_z2 hw (by omega)]
    have next := ih (j + 1) _ (by omega) (ed_Es hE)
    refine ⟨hiw, br_f hn ⟨vp_in_nI hi (by omega), ed_z2i hw (by omega), ?_⟩⟩
    by_cases he : qu i = sy (6 * w + j)
    · refine br_t (by rw [eq1, es1]; exact he) (br_f (by decide) ?_)
      exact xw_deal86 (by omega) hA hU (by omega) (by omega) (by omega) (by omega) (ed_s1 he) next
    · refine br_f (by rw [eq1, es1]; exact he) (br_t rfl ?_)
      rw [nI_add]
      exact xw_deal86 (by omega) hA hU (by omega) (by omega) (by omega) (by omega) (ed_s2 he) next
theorem xw_deal9 {post : SX → Prop} {ql : Int32} {sy l wt qu cs : Nat → Int32} (hl : ed_ok l) {i w : Nat} (hi : i < 6) (hw : w < 10) (h : ∀ t, t ≤ ed_tl l w → cs t = nI (ed_c qu (fun j => sy (6 * w + j)) i t))
    (H : ∀ cs', (∀ t, t ≤ ed_tl l w → cs' t = nI (ed_c qu (fun j => sy (6 * w + j)) (i + 1) t)) → post (ql, sy, l, wt, qu, cs')) : wX_dealWith_9 post (nI i) (nI w) (nI (ed_ch i)) ql sy l wt qu cs := by
  refine nm_r (h 0 (Nat.zero_le _)) (nm_r (e' := upd cs 0 (nI (ed_c qu (fun j => sy (6 * w + j)) (i + 1) 0))) ?_ ⟨ed_tl l w + 1, ?_⟩)
  · rw [nI_add]; rfl
  · exact xw_dealL hl hi hw H (ed_tl l w) 0 _ (by omega) (ed_Es (ed_E0 h))
theorem xw_dealWith {post : SX → Prop} {ql : Int32} {sy l wt qu cs : Nat → Int32} (hl : ed_ok l) {i w : Nat} (hi : i < 6) (hw : w < 10) (h : ∀ t, t ≤ ed_tl l w → cs t = nI (ed_c qu (fun j => sy (6 * w + j)) i t))
    (H : ∀ cs', (∀ t, t ≤ ed_tl l w → cs' t = nI (ed_c qu (fun j => sy (6 * w + j)) (i + 1) t)) → post (ql, sy, l, wt, qu, cs')) : wpX_dealWith post (ql, sy, l, wt, qu, cs) (nI i) (nI w) := by
  have g := xw_deal9 hl hi hw h H
  refine pk_eq i 0 (fun z => ?_) (fun z => ?_)
  · rw [show ed_ch i = 2 by unfold ed_ch; rw [if_pos z]] at g; exact g
  · rw [show ed_ch i = 1 by unfold ed_ch; rw [if_neg z]] at g; exact g
theorem xw_least56 {post : Int32 → SX → Prop} {ql : Int32} {sy l wt qu cs : Nat → Int32} (hl : ed_ok l) {w : Nat} (hw : w < 10) {r : Nat → Nat} (hr : ∀ t, t ≤ ed_tl l w → cs t = nI (r t)) (hb : ∀ t, t ≤ 6 → r t < 1000) (H : post (nI (ed_m r (ed_tl l w))) (ql, sy, l, wt, qu, cs)) :
    ∀ d j, j + d = ed_tl l w → wX_leastCost_56 post (nI w) ql sy l wt qu cs (d + 1) (nI (ed_m r j)) (nI (j + 1)) := by
  have hm := ed_ok2 hl w
  have hiw : vp_in (nI w) 10 := vp_in_nI hw (by omega)
  have h0 := hb 0 (by omega)
  intro d
  induction d with
  | zero =>
    intro j hj
    have e : ed_tl l w = j := by omega
    rw [e] at H
    refine ⟨hiw, br_t ?_ H⟩
    rw [ed_la hl hw]
    exact nI_lt (by omega) (by omega)
  | succ d ih =>
    intro j hj
    have hn : ¬ l (nI w).toNatClampNeg < nI (j + 1) := by rw [ed_la hl hw]; exact nI_nlt (by omega) (by omega)
    have ec : cs (nI (j + 1)).toNatClampNeg = nI (r (j + 1)) := by rw [nI_clamp (by omega)]; exact hr (j + 1) (by omega)
    have hi : vp_in (nI (j + 1)) 7 := vp_in_nI (by omega) (by omega)
    have next := ih (j + 1) (by omega)
    have bm := ed_mle r j
    have br := hb (j + 1) (by omega)
    have es := ed_ms r j
    refine ⟨hiw, br_f hn ⟨hi, pk_le (ed_m r j) (r (j + 1)) (fun h => nm_r (nI_1 (j + 1)) ?_) (fun h => ⟨hi, nm_r ec (nm_r (nI_1 (j + 1)) ?_)⟩) rfl ec⟩⟩
    · rw [show ed_m r (j + 1) = ed_m r j by omega] at next; exact next
    · rw [show ed_m r (j + 1) = r (j + 1) by omega] at next; exact next
theorem xw_least29 {post : Int32 → SX → Prop} {ql : Int32} {sy l wt qu : Nat → Int32} (hl : ed_ok l) {n w : Nat} (hn : n ≤ 6) (hw : w < 10) (H : ∀ cs', post (nI (ed_ty l sy qu n w)) (ql, sy, l, wt, qu, cs')) :
    ∀ d i cs, i + d = n → (∀ t, t ≤ ed_tl l w → cs t = nI (ed_c qu (fun j => sy (6 * w + j)) i t)) → wX_leastCost_29 post (nI w) (nI n) (d + 1) (nI i) ql sy l wt qu cs := by
  intro d
  induction d with
  | zero =>
    intro i cs hi h
    have e : i = n := by omega
    rw [e] at h
    rw [e]
    refine br_t (Int32.le_refl _) (nm_r (h 0 (Nat.zero_le _)) ⟨ed_tl l w + 1, ?_⟩)
    exact xw_least56 hl hw h (fun t ht => by have := ed_cle qu (fun j => sy (6 * w + j)) n t; omega) (H cs) (ed_tl l w) 0 (by omega)
  | succ d ih =>
    intro i cs hi h
    refine br_f (nI_ge (by omega) (by omega)) (xw_dealWith hl (by omega) hw h (fun cs' h' => ?_))
    exact nm_r (nI_1 i) (ih (i + 1) cs' (by omega) h')
theorem xw_least2 {post : Int32 → SX → Prop} {ql : Int32} {sy l wt qu : Nat → Int32} (hl : ed_ok l) {n w : Nat} (hn : n ≤ 6) (hw : w < 10) (H : ∀ cs', post (nI (ed_ty l sy qu n w)) (ql, sy, l, wt, qu, cs')) :
    ∀ d j cs, j + d = ed_tl l w + 1 → (∀ t, t < j → cs t = nI (2 * t)) → wX_leastCost_2 post (nI w) (nI n) ql (d + 1) (nI j) sy l wt qu cs := by
  have hm := ed_ok2 hl w
  have hiw : vp_in (nI w) 10 := vp_in_nI hw (by omega)
  intro d
  induction d with
  | zero =>
    intro j cs hj h
    refine ⟨hiw, br_t ?_ ⟨n + 1, xw_least29 hl hn hw H n 0 cs (by omega) (fun t ht => h t (by omega))⟩⟩
    rw [ed_la hl hw]
    exact nI_lt (by omega) (by omega)
  | succ d ih =>
    intro j cs hj h
    have hc : ¬ l (nI w).toNatClampNeg < nI j := by rw [ed_la hl hw]; exact nI_nlt (by omega) (by omega)
    refine ⟨hiw, br_f hc ⟨vp_in_nI (by omega) (by omega), nm_r (e' := upd cs j (nI (2 * j))) ?_ (nm_r (nI_1 j) (ih (j + 1) _ (by omega) ?_))⟩⟩
    · rw [nI_clamp (by omega), ed_i2]
    · intro t ht
      by_cases e : t = j
      · rw [e, pk_us]
      · rw [pk_un e]; exact h t (by omega)
theorem xw_leastCost {post : Int32 → SX → Prop} {ql : Int32} {sy l wt qu cs : Nat → Int32} (hl : ed_ok l) {n w : Nat} (hn : n ≤ 6) (hw : w < 10) (H : ∀ cs', post (nI (ed_ty l sy qu n w)) (ql, sy, l, wt, qu, cs')) : wpX_leastCost post (ql, sy, l, wt, qu, cs) (nI w) (nI n) :=
  ⟨ed_tl l w + 2, xw_least2 hl hn hw H (ed_tl l w + 1) 0 cs (by omega) (fun t ht => absurd ht (Nat.not_lt_zero t))⟩
end
section
/-! X: found, counts, bits, order, hints, common -/
theorem ed_gX {b : Bool} {A B : Prop} (ht : b = true → B) (hf : b = false → A) : (ed_bI b = 0 → A) ∧ (¬ ed_bI b = 0 → B) := by
  cases b
  · exact br_t rfl (hf rfl)
  · exact br_f (by decide) (ht rfl)
theorem xw_isFound {post : Int32 → SX → Prop} {ql : Int32} {sy l wt qu cs : Nat → Int32} (hl : ed_ok l) {n w : Nat} (hn : n ≤ 6) (hw : w < 10) (H : ∀ cs', post (ed_bI (ed_fd l sy qu n w)) (ql, sy, l, wt, qu, cs')) : wpX_isFound post (ql, sy, l, wt, qu, cs) (nI w) (nI n) := by
  have b1 := ed_tyle l sy qu n w
  have b2 := ed_fgle n
  unfold wpX_isFound
  refine xw_isWord hl hw (ed_gX (fun z => ?_) (fun z => ?_))
  · refine xw_leastCost hl hn hw fun cs' => xw_forgiven (by omega) (pk_lt (ed_fg n) (ed_ty l sy qu n w) (fun h => ?_) (fun h => ?_))
    · have g := H cs'; rw [ed_fdf (by omega)] at g; exact g
    · have g := H cs'; rw [ed_fdt (ed_wd1 z) h] at g; exact g
  · have g := H cs; rw [ed_fd0 (ed_wd0 z)] at g; exact g
theorem xw_isFoundN {post : Int32 → SX → Prop} {ql : Int32} {sy l wt qu cs : Nat → Int32} {x y : Int32} (h : ed_out x) (H : post 0 (ql, sy, l, wt, qu, cs)) : wpX_isFound post (ql, sy, l, wt, qu, cs) x y := by
  unfold wpX_isFound
  exact xw_isWordN h (br_t rfl H)
theorem xw_count4 {post : Int32 → SX → Prop} {ql : Int32} {sy l wt qu : Nat → Int32} (hl : ed_ok l) {n : Nat} (hn : n ≤ 6) (H : ∀ cs', post (nI (ed_cn (ed_fd l sy qu n) 10)) (ql, sy, l, wt, qu, cs')) :
    ∀ d k cs, k + d = 10 → wX_countFound_4 post (nI n) (d + 1) (nI (ed_cn (ed_fd l sy qu n) k)) (nI k) ql sy l wt qu cs := by
  intro d
  induction d with
  | zero =>
    intro k cs hk
    have e : k = 10 := by omega
    subst e
    exact br_t ed_10 (H cs)
  | succ d ih =>
    intro k cs hk
    refine br_f (ed_w10 (by omega)) (xw_isFound hl hn (by omega) fun c1 => ed_gX (fun z => ?_) (fun z => ?_))
    · have next := ih (k + 1) c1 (by omega)
      rw [ed_cnt z] at next
      exact nm_r (nI_1 _) (nm_r (nI_1 k) next)
    · have next := ih (k + 1) c1 (by omega)
      rw [ed_cnf z] at next
      exact nm_r (nI_1 k) next
theorem xw_countFound {post : Int32 → SX → Prop} {ql : Int32} {sy l wt qu cs : Nat → Int32} (hl : ed_ok l) {n : Nat} (hn : n ≤ 6) {x : Int32} (hx : x = nI n) (H : ∀ cs', post (nI (ed_cn (ed_fd l sy qu n) 10)) (ql, sy, l, wt, qu, cs')) : wpX_countFound post (ql, sy, l, wt, qu, cs) x := by
  subst hx
  exact ⟨11, xw_count4 hl hn H 10 0 cs rfl⟩
theorem xw_found4 {post : Int32 → SX → Prop} {sy l wt qu : Nat → Int32} {n : Nat} (hl : ed_ok l) (hn : n ≤ 6) (H : ∀ cs', post (ed_bx (ed_fd l sy qu n) 10) (nI n, sy, l, wt, qu, cs')) :
    ∀ d k cs, k + d = 10 → wX_found_4 post (d + 1) (ed_bx (ed_fd l sy qu n) k) (nI k) (nI n) sy l wt qu cs := by
  intro d
  induction d with
  | zero =>
    intro k cs hk
    have e : k = 10 := by omega
    subst e
    exact br_t ed_10 (H cs)
  | succ d ih =>
    intro k cs hk
    refine br_f (ed_w10 (by omega)) (xw_isFound hl hn (by omega) fun c1 => ed_gX (fun z => ?_) (fun z => ?_))
    · exact nm_r (ed_bxt z).symm (nm_r (nI_1 k) (ih (k + 1) c1 (by omega)))
    · exact nm_r (nI_1 k) (by have next := ih (k + 1) c1 (by omega); rw [ed_bxf z] at next; exact next)
theorem xw_found {post : Int32 → SX → Prop} {sy l wt qu cs : Nat → Int32} {n : Nat} (hl : ed_ok l) (hn : n ≤ 6) (H : ∀ cs', post (ed_bx (ed_fd l sy qu n) 10) (nI n, sy, l, wt, qu, cs')) : wpX_found post (nI n, sy, l, wt, qu, cs) :=
  ⟨11, xw_found4 hl hn H 10 0 cs rfl⟩
theorem xw_words4 {post : Int32 → Prop} {ql : Int32} {sy l wt qu cs : Nat → Int32} (hl : ed_ok l) (H : post (ed_bx (ed_wd l) 10)) :
    ∀ d k, k + d = 10 → wX_words_4 post ql sy l wt qu cs (d + 1) (ed_bx (ed_wd l) k) (nI k) := by
  intro d
  induction d with
  | zero =>
    intro k hk
    have e : k = 10 := by omega
    subst e
    exact br_t ed_10 H
  | succ d ih =>
    intro k hk
    refine br_f (ed_w10 (by omega)) (xw_isWord hl (by omega) (ed_gX (fun z => ?_) (fun z => ?_)))
    · exact nm_r (ed_bxt z).symm (nm_r (nI_1 k) (ih (k + 1) (by omega)))
    · exact nm_r (nI_1 k) (by have next := ih (k + 1) (by omega); rw [ed_bxf z] at next; exact next)
theorem xw_words {post : Int32 → Prop} {ql : Int32} {sy l wt qu cs : Nat → Int32} (hl : ed_ok l) (H : post (ed_bx (ed_wd l) 10)) : wpX_words post (ql, sy, l, wt, qu, cs) :=
  ⟨11, xw_words4 hl H 10 0 rfl⟩
theorem xw_isQuery17 {post : Int32 → Prop} {sy l wt qu cs : Nat → Int32} {n : Nat} (hn : n ≤ 6) {w : Nat} (hw : w < 10) (hL : ed_tl l w = n) (H : post (ed_bI (ed_ex l sy qu n w))) :
    ∀ d i, i + d = n → (∀ t, t < i → sy (6 * w + t) = qu t) → wX_isQuery_17 post (nI w) (nI n) sy l wt qu cs (d + 1) (nI i) := by
  intro d
  induction d with
  | zero =>
    intro i hi h
    have e : i = n := by omega
    subst e
    rw [ed_ext hL h] at H
    exact br_t (Int32.le_refl _) H
  | succ d ih =>
    intro i hi h
    have e1 : sy (nI w * (6 : Int32) + nI i).toNatClampNeg = sy (6 * w + i) := by rw [ed_z1 hw (by omega)]
    have e2 : qu (nI i).toNatClampNeg = qu i := ed_cI (by omega)
    refine br_f (nI_ge (by omega) (by omega)) ⟨ed_z1i hw (by omega), vp_in_nI (by omega) (by omega), ?_⟩
    by_cases he : sy (6 * w + i) = qu i
    · exact br_t (by rw [e1, e2]; exact he) (nm_r (nI_1 i) (ih (i + 1) (by omega) (lt_s h he)))
    · rw [ed_exi i (by omega) he] at H
      exact br_f (by rw [e1, e2]; exact he) H
theorem xw_isQuery {post : Int32 → Prop} {sy l wt qu cs : Nat → Int32} {n : Nat} (hl : ed_ok l) (hn : n ≤ 6) {w : Nat} (hw : w < 10) (H : post (ed_bI (ed_ex l sy qu n w))) : wpX_isQuery post (nI n, sy, l, wt, qu, cs) (nI w) := by
  have hm := ed_ok2 hl w
  refine ⟨vp_in_nI hw (by omega), pk_eq (ed_tl l w) n (fun h => ⟨n + 1, xw_isQuery17 hn hw h H n 0 (by omega) lt_0⟩) (fun h => ?_) (ed_la hl hw) rfl⟩
  rw [ed_exl h] at H
  exact H
theorem ed_bInj {a b : Bool} (h : ed_bI a = ed_bI b) : a = b := by cases a <;> cases b <;> first | rfl | exact absurd h (by decide)
theorem xw_goesBefore {post : Int32 → SX → Prop} {sy l wt qu cs : Nat → Int32} {n : Nat} (hl : ed_ok l) (hn : n ≤ 6) {a b : Nat} (ha : a < 10) (hb : b < 10) (H : ∀ cs', post (ed_bI (ed_gb l sy wt qu n a b)) (nI n, sy, l, wt, qu, cs')) : wpX_goesBefore post (nI n, sy, l, wt, qu, cs) (nI a) (nI b) := by
  have t1 := ed_tyle l sy qu n a
  have t2 := ed_tyle l sy qu n b
  have m1 := ed_ok2 hl a
  have m2 := ed_ok2 hl b
  have via : vp_in (nI a) 10 := vp_in_nI ha (by omega)
  have vib : vp_in (nI b) 10 := vp_in_nI hb (by omega)
  have ea : wt (nI a).toNatClampNeg = wt a := ed_cI (by omega)
  have eb : wt (nI b).toNatClampNeg = wt b := ed_cI (by omega)
  unfold ed_gb at H
  unfold wpX_goesBefore
  refine xw_leastCost hl hn ha (fun c1 => xw_leastCost hl hn hb (fun c2 => pk_eq (ed_ty l sy qu n a) (ed_ty l sy qu n b) (fun h1 => ?_) (fun h1 => ?_)))
  · refine xw_isQuery hl hn ha (xw_isQuery hl hn hb ?_)
    rw [if_pos h1] at H
    by_cases h2 : ed_ex l sy qu n a = ed_ex l sy qu n b
    · rw [if_pos h2] at H
      refine br_t (by rw [h2]) ⟨via, vib, pk_eq (ed_tl l a) (ed_tl l b) (fun h3 => ⟨via, vib, ?_⟩) (fun h3 => ⟨via, vib, pk_le (ed_tl l b) (ed_tl l a) (fun h4 => ?_) (fun h4 => ?_) (ed_la hl hb) (ed_la hl ha)⟩) (ed_la hl ha) (ed_la hl hb)⟩
      · rw [if_pos h3] at H
        by_cases h4 : wt a = wt b
        · rw [if_pos h4] at H
          refine br_t (by rw [ea, eb]; exact h4) (pk_le b a (fun h5 => ?_) (fun h5 => ?_))
          · have g := H c2; rw [decide_eq_false (by omega)] at g; exact g
          · have g := H c2; rw [decide_eq_true (by omega)] at g; exact g
        · rw [if_neg h4] at H
          refine br_f (by rw [ea, eb]; exact h4) ⟨via, vib, ?_⟩
          by_cases h5 : wt a ≤ wt b
          · have g := H c2; rw [decide_eq_false (Int32.not_lt.mpr h5)] at g
            exact br_t (by rw [ea, eb]; exact h5) g
          · have g := H c2; rw [decide_eq_true (Int32.not_le.mp h5)] at g
            exact br_f (by rw [ea, eb]; exact h5) g
      · have g := H c2; rw [if_neg h3, decide_eq_false (by omega)] at g; exact g
      · have g := H c2; rw [if_neg h3, decide_eq_true (by omega)] at g; exact g
    · rw [if_neg h2] at H
      exact br_f (fun z => h2 (ed_bInj z)) ⟨ed_nb _, H c2⟩
  · rw [if_neg h1] at H
    refine pk_le (ed_ty l sy qu n b) (ed_ty l sy qu n a) (fun h4 => ?_) (fun h4 => ?_)
    · have g := H c2; rw [decide_eq_false (by omega)] at g; exact g
    · have g := H c2; rw [decide_eq_true (by omega)] at g; exact g
theorem xw_countB4 {post : Int32 → SX → Prop} {sy l wt qu : Nat → Int32} {n : Nat} (hl : ed_ok l) (hn : n ≤ 6) {w : Nat} (hw : w < 10) (H : ∀ cs', post (nI (ed_cb l sy wt qu n w)) (nI n, sy, l, wt, qu, cs')) :
    ∀ d k cs, k + d = 10 → wX_countBefore_4 post (nI w) (d + 1) (nI (ed_cn (ed_be l sy wt qu n w) k)) (nI k) (nI n) sy l wt qu cs := by
  intro d
  induction d with
  | zero =>
    intro k cs hk
    have e : k = 10 := by omega
    subst e
    exact br_t ed_10 (H cs)
  | succ d ih =>
    intro k cs hk
    have nf : ∀ c1, ed_be l sy wt qu n w k = false → wX_countBefore_4 post (nI w) (d + 1) (nI (ed_cn (ed_be l sy wt qu n w) k)) (nI (k + 1)) (nI n) sy l wt qu c1 := by
      intro c1 z
      have next := ih (k + 1) c1 (by omega)
      rw [ed_cnf z] at next
      exact next
    refine br_f (ed_w10 (by omega)) (pk_eq k w (fun h => nm_r (nI_1 k) (nf cs (ed_beq h))) (fun h => ?_))
    refine xw_isFound hl hn (by omega) fun c1 => ed_gX (fun z => ?_) (fun z => nm_r (nI_1 k) (nf c1 (ed_bef z)))
    refine xw_goesBefore hl hn (by omega) hw fun c2 => ed_gX (fun y => ?_) (fun y => nm_r (nI_1 k) (nf c2 (by rw [ed_ben h z]; exact y)))
    have next := ih (k + 1) c2 (by omega)
    rw [ed_cnt (by rw [ed_ben h z]; exact y)] at next
    exact nm_r (nI_1 _) (nm_r (nI_1 k) next)
theorem xw_countBefore {post : Int32 → SX → Prop} {sy l wt qu cs : Nat → Int32} {n : Nat} (hl : ed_ok l) (hn : n ≤ 6) {w : Nat} (hw : w < 10) (H : ∀ cs', post (nI (ed_cb l sy wt qu n w)) (nI n, sy, l, wt, qu, cs')) : wpX_countBefore post (nI n, sy, l, wt, qu, cs) (nI w) :=
  ⟨11, xw_countB4 hl hn hw H 10 0 cs rfl⟩
def ed_pl (l sy wt qu : Nat → Int32) (n w : Nat) : Int32 := if ed_fd l sy qu n w = true then nI (ed_cb l sy wt qu n w) else -1
theorem ed_plt {l sy wt qu : Nat → Int32} {n w : Nat} (h : ed_fd l sy qu n w = true) : ed_pl l sy wt qu n w = nI (ed_cb l sy wt qu n w) := if_pos h
theorem ed_plf {l sy wt qu : Nat → Int32} {n w : Nat} (h : ed_fd l sy qu n w = false) : ed_pl l sy wt qu n w = -1 := if_neg (by rw [h]; decide)
theorem xw_place {post : Int32 → SX → Prop} {sy l wt qu cs : Nat → Int32} {n : Nat} (hl : ed_ok l) (hn : n ≤ 6) {w : Nat} (hw : w < 10) (H : ∀ cs', post (ed_pl l sy wt qu n w) (nI n, sy, l, wt, qu, cs')) : wpX_place post (nI n, sy, l, wt, qu, cs) (nI w) := by
  unfold wpX_place
  refine xw_isFound hl hn hw fun c1 => ed_gX (fun z => ?_) (fun z => ?_)
  · rw [ed_plt z] at H
    exact xw_countBefore hl hn hw H
  · rw [ed_plf z] at H
    exact H c1
def ed_ap (l sy wt qu : Nat → Int32) (n : Nat) (x : Int32) (w : Nat) : Bool := ed_fd l sy qu n w && decide (nI (ed_cb l sy wt qu n w) = x)
theorem ed_apt {l sy wt qu : Nat → Int32} {n w : Nat} {x : Int32} (h : ed_fd l sy qu n w = true) (h2 : nI (ed_cb l sy wt qu n w) = x) : ed_ap l sy wt qu n x w = true := by
  unfold ed_ap
  rw [h, decide_eq_true h2]
  rfl
theorem ed_apn {l sy wt qu : Nat → Int32} {n w : Nat} {x : Int32} (h2 : ¬ nI (ed_cb l sy wt qu n w) = x) : ed_ap l sy wt qu n x w = false := by
  unfold ed_ap
  rw [decide_eq_false h2, Bool.and_false]
theorem ed_apf {l sy wt qu : Nat → Int32} {n w : Nat} {x : Int32} (h : ed_fd l sy qu n w = false) : ed_ap l sy wt qu n x w = false := by
  unfold ed_ap
  rw [h, Bool.false_and]
theorem xw_at2 {post : Int32 → SX → Prop} {sy l wt qu : Nat → Int32} {n : Nat} (hl : ed_ok l) (hn : n ≤ 6) {x : Int32} :
    ∀ d w cs, w + d = 10 → (∀ cs', post (ed_at (ed_ap l sy wt qu n x) d w) (nI n, sy, l, wt, qu, cs')) → wX_at_2 post x (d + 1) (nI w) (nI n) sy l wt qu cs := by
  intro d
  induction d with
  | zero =>
    intro w cs hk H
    have e : w = 10 := by omega
    subst e
    exact br_t ed_10 (H cs)
  | succ d ih =>
    intro w cs hk H
    refine br_f (ed_w10 (by omega)) (xw_isFound hl hn (by omega) fun c1 => ed_gX (fun z => ?_) (fun z => nm_r (nI_1 w) (ih (w + 1) c1 (by omega) ?_)))
    · refine xw_countBefore hl hn (by omega) fun c2 => br_c (fun h => ?_) (fun h => nm_r (nI_1 w) (ih (w + 1) c2 (by omega) ?_))
      · rw [ed_att (ed_apt z h)] at H; exact H c2
      · rw [ed_atf (ed_apn h)] at H; exact H
    · rw [ed_atf (ed_apf z)] at H; exact H
theorem xw_at {post : Int32 → SX → Prop} {sy l wt qu cs : Nat → Int32} {n : Nat} (hl : ed_ok l) (hn : n ≤ 6) {x : Int32} (H : ∀ cs', post (ed_at (ed_ap l sy wt qu n x) 10 0) (nI n, sy, l, wt, qu, cs')) : wpX_at post (nI n, sy, l, wt, qu, cs) x :=
  ⟨11, xw_at2 hl hn 10 0 cs rfl H⟩
theorem ed_hbt {l sy qu : Nat → Int32} {n s : Nat} (h : 0 < ed_cn (ed_fd l sy (ed_hq qu n (s + 1)) (n + 1)) 10) : ed_hb l sy qu n s = true := decide_eq_true h
theorem ed_hbf {l sy qu : Nat → Int32} {n s : Nat} (h : ed_cn (ed_fd l sy (ed_hq qu n (s + 1)) (n + 1)) 10 = 0) : ed_hb l sy qu n s = false := decide_eq_false (by omega)
theorem xw_hints15 {post : Int32 → SX → Prop} {sy l wt qu : Nat → Int32} {n : Nat} (hl : ed_ok l) (hn : n < 6) (H : ∀ cs', post (ed_bx (ed_hb l sy qu n) 4) (nI n, sy, l, wt, ed_hq qu n 4, cs')) :
    ∀ d s cs, s + d = 4 → wX_hints_15 post (d + 1) (ed_bx (ed_hb l sy qu n) s) (nI s) (nI n) sy l wt (ed_hq qu n s) cs := by
  intro d
  induction d with
  | zero =>
    intro s cs hk
    have e : s = 4 := by omega
    subst e
    exact br_t (Int32.le_refl _) (H cs)
  | succ d ih =>
    intro s cs hk
    have bc := ed_cnle (ed_fd l sy (ed_hq qu n (s + 1)) (n + 1)) 10
    refine br_f (nI_ge (b := 4) (by omega) (by decide)) ⟨vp_in_nI hn (by omega), nm_r (e' := ed_hq qu n (s + 1)) (by rw [nI_clamp (by omega)]; rfl) ?_⟩
    refine xw_countFound hl (n := n + 1) hn (nI_1 n) fun c1 => pk_le (ed_cn (ed_fd l sy (ed_hq qu n (s + 1)) (n + 1)) 10) 0 (fun h => ?_) (fun h => ?_)
    · have next := ih (s + 1) c1 (by omega)
      rw [ed_bxf (ed_hbf (by omega))] at next
      exact nm_r (nI_1 s) next
    · exact nm_r (ed_bxt (ed_hbt h)).symm (nm_r (nI_1 s) (ih (s + 1) c1 (by omega)))
theorem xw_hints {post : Int32 → SX → Prop} {sy l wt qu cs : Nat → Int32} {n : Nat} (hl : ed_ok l) (hn : n < 6) (H : ∀ cs', post (ed_bx (ed_hb l sy qu n) 4) (nI n, sy, l, wt, ed_hq qu n 4, cs')) : wpX_hints post (nI n, sy, l, wt, qu, cs) := by
  unfold wpX_hints
  exact br_t (nI_lt (b := 6) hn (by decide)) ⟨5, xw_hints15 hl hn H 4 0 cs rfl⟩
theorem xw_hintsF {post : Int32 → SX → Prop} {sy l wt qu cs : Nat → Int32} {n : Nat} (hn : n = 6) (H : post 0 (nI n, sy, l, wt, qu, cs)) : wpX_hints post (nI n, sy, l, wt, qu, cs) := by
  unfold wpX_hints
  exact br_f (by rw [hn]; decide) H
theorem ed_spec {P : Nat → Prop} {s m i : Nat} (h1 : i ≤ s) (h2 : i ≤ m) (h3 : ∀ t, t < i → P t) (h4 : s ≤ i ∨ m ≤ i ∨ ¬ P i) : ∀ t, t ≤ i ↔ (t ≤ s ∧ t ≤ m ∧ ∀ k, k < t → P k) := by
  intro t
  constructor
  · intro h
    exact ⟨by omega, by omega, fun k hk => h3 k (by omega)⟩
  · intro ⟨a, b, c⟩
    rcases h4 with h4 | h4 | h4
    · omega
    · omega
    · by_cases e : t ≤ i
      · exact e
      · exact absurd (c i (by omega)) h4
theorem xw_sharedL {post : Int32 → Prop} {ql : Int32} {sy l wt qu cs : Nat → Int32} (hl : ed_ok l) {a b s : Nat} (ha : a < 10) (hb : b < 10) (hs : s ≤ 6) (H : ∀ r, (∀ t, t ≤ r ↔ (t ≤ s ∧ t ≤ ed_tl l b ∧ ∀ i, i < t → sy (6 * a + i) = sy (6 * b + i))) → post (nI r)) :
    ∀ d i, i + d = 6 → i ≤ s → i ≤ ed_tl l b → (∀ t, t < i → sy (6 * a + t) = sy (6 * b + t)) → wX_sharedBeginning_3 post (nI a) (nI b) (nI s) ql sy l wt qu cs (d + 1) (nI i) := by
  have hm := ed_ok2 hl b
  intro d
  induction d with
  | zero =>
    intro i hi h1 h2 h3
    refine pk_le s i (fun h => H i (ed_spec h1 h2 h3 (Or.inl h))) (fun h => ⟨vp_in_nI hb (by omega), pk_le (ed_tl l b) i (fun h => H i (ed_spec h1 h2 h3 (Or.inr (Or.inl h)))) (fun h => ?_) (ed_la hl hb) rfl⟩)
    exact absurd h (by omega)
  | succ d ih =>
    intro i hi h1 h2 h3
    refine pk_le s i (fun h => H i (ed_spec h1 h2 h3 (Or.inl h))) (fun h => ⟨vp_in_nI hb (by omega), pk_le (ed_tl l b) i (fun h => H i (ed_spec h1 h2 h3 (Or.inr (Or.inl h)))) (fun h' => ⟨ed_z1i ha (by omega), ed_z1i hb (by omega), ?_⟩) (ed_la hl hb) rfl⟩)
    have e1 : sy (nI a * (6 : Int32) + nI i).toNatClampNeg = sy (6 * a + i) := by rw [ed_z1 ha (by omega)]
    have e2 : sy (nI b * (6 : Int32) + nI i).toNatClampNeg = sy (6 * b + i) := by rw [ed_z1 hb (by omega)]
    by_cases he : sy (6 * a + i) = sy (6 * b + i)
    · exact br_t (by rw [e1, e2]; exact he) (nm_r (nI_1 i) (ih (i + 1) (by omega) (by omega) (by omega) (lt_s h3 he)))
    · exact br_f (by rw [e1, e2]; exact he) (H i (ed_spec h1 h2 h3 (Or.inr (Or.inr he))))
theorem xw_shared {post : Int32 → Prop} {ql : Int32} {sy l wt qu cs : Nat → Int32} (hl : ed_ok l) {a b s : Nat} (ha : a < 10) (hb : b < 10) (hs : s ≤ 6) (H : ∀ r, (∀ t, t ≤ r ↔ (t ≤ s ∧ t ≤ ed_tl l b ∧ ∀ i, i < t → sy (6 * a + i) = sy (6 * b + i))) → post (nI r)) : wpX_sharedBeginning post (ql, sy, l, wt, qu, cs) (nI a) (nI b) (nI s) :=
  ⟨7, xw_sharedL hl ha hb hs H 6 0 rfl (by omega) (by omega) lt_0⟩
theorem ed_Xle {b : Nat → Bool} {l sy : Nat → Int32} (hl : ed_ok l) {w f sN : Nat} (h : ed_X b l sy w f sN) : sN ≤ 6 := by
  have a := (h.2.2 sN).mp (Nat.le_refl _) f h.1 h.2.1
  have := a.1
  have := ed_ok2 hl f
  omega
theorem ed_nm1 {f : Nat} (hf : f < 10) : ¬ nI f = -1 := by
  intro e
  have h := nI_pos (n := f) (by omega)
  rw [e] at h
  exact h (by decide)
theorem xw_common6 {post : Int32 → SX → Prop} {sy l wt qu : Nat → Int32} {n : Nat} (hl : ed_ok l) (hn : n ≤ 6) (H : ∀ cs' r, ed_cm (ed_fd l sy qu n) l sy r → post (nI r) (nI n, sy, l, wt, qu, cs')) :
    ∀ d k x1 x2 cs, k + d = 10 → ((x1 = -1 ∧ x2 = nI 0 ∧ ∀ v, v < k → ed_fd l sy qu n v = false) ∨ ∃ f s, ed_X (ed_fd l sy qu n) l sy k f s ∧ x1 = nI f ∧ x2 = nI s) → wX_common_6 post (d + 1) x1 x2 (nI k) (nI n) sy l wt qu cs := by
  intro d
  induction d with
  | zero =>
    intro k x1 x2 cs hk h
    have e : k = 10 := by omega
    subst e
    rcases h with ⟨_, e2, h⟩ | ⟨f, s, h, _, e2⟩
    · rw [e2]; exact br_t ed_10 (H cs 0 (ed_X5 h))
    · rw [e2]; exact br_t ed_10 (H cs s (ed_X4 h))
  | succ d ih =>
    intro k x1 x2 cs hk h
    have hk10 : k < 10 := by omega
    refine br_f (ed_w10 hk10) (xw_isFound hl hn hk10 fun c1 => ed_gX (fun z => ?_) (fun z => nm_r (nI_1 k) (ih (k + 1) x1 x2 c1 (by omega) ?_)))
    · rcases h with ⟨e1, e2, h⟩ | ⟨f, s, h, e1, e2⟩
      · exact br_t e1 ⟨vp_in_nI hk10 (by omega), nm_r (ed_la hl hk10) (nm_r (nI_1 k) (ih (k + 1) _ _ c1 (by omega) (Or.inr ⟨k, ed_tl l k, ed_X1 z h, rfl, rfl⟩)))⟩
      · subst e1 e2
        have hf : f < 10 := by have := h.1; omega
        exact br_f (ed_nm1 hf) (xw_shared hl hf hk10 (ed_Xle hl h) fun r hr => nm_r (nI_1 k) (ih (k + 1) _ _ c1 (by omega) (Or.inr ⟨f, r, ed_X3 z h hr, rfl, rfl⟩)))
    · rcases h with ⟨e1, e2, h⟩ | ⟨f, s, h, e1, e2⟩
      · exact Or.inl ⟨e1, e2, lt_s h z⟩
      · exact Or.inr ⟨f, s, ed_X2 z h, e1, e2⟩
theorem xw_common {post : Int32 → SX → Prop} {sy l wt qu cs : Nat → Int32} {n : Nat} (hl : ed_ok l) (hn : n ≤ 6) (H : ∀ cs' r, ed_cm (ed_fd l sy qu n) l sy r → post (nI r) (nI n, sy, l, wt, qu, cs')) : wpX_common post (nI n, sy, l, wt, qu, cs) :=
  ⟨11, xw_common6 hl hn H 10 0 (-1) 0 cs rfl (Or.inl ⟨rfl, rfl, lt_0⟩)⟩
end
section
/-! Y: word, step, edits -/
theorem yw_is {post : Int32 → Prop} {sy l wt qu cs : Nat → Int32} {n : Nat} (hl : ed_ok l) {w : Nat} (hw : w < 10) (H : post (ed_bI (ed_wd l w))) : wpY_is post (nI n, l, sy, wt, qu, cs) (nI w) := by
  have h0 : ¬ nI w < 0 := nI_pos (by omega)
  have e := ed_la hl hw
  have hm := ed_ok2 hl w
  by_cases z : ed_tl l w = 0
  · rw [ed_wdf z] at H
    exact br_f h0 (br_f (ed_w10 hw) ⟨vp_in_nI hw (by omega), br_t (by rw [e, z]; exact Int32.le_refl _) H⟩)
  · rw [ed_wdt (by omega)] at H
    exact br_f h0 (br_f (ed_w10 hw) ⟨vp_in_nI hw (by omega), br_f (by rw [e]; exact nI_nle (by omega) (by omega)) H⟩)
theorem yw_isN {post : Int32 → Prop} {sy l wt qu cs : Nat → Int32} {n : Nat} {x : Int32} (h : ed_out x) (H : post 0) : wpY_is post (nI n, l, sy, wt, qu, cs) x := by
  rcases h with h | ⟨h, h1⟩
  · exact br_t h H
  · exact br_f h (br_t h1 H)
theorem yw_min {post : Int32 → Prop} {sy l wt qu cs : Nat → Int32} {n : Nat} {x y : Int32} {a b : Nat} (hx : x = nI a) (hy : y = nI b) (ha : a < 2 ^ 31) (hb : b < 2 ^ 31) (H : post (nI (min a b))) : wpY_min post (nI n, l, sy, wt, qu, cs) x y := by
  subst hx hy
  refine pk_le b a (fun h => ?_) (fun h => ?_)
  · rw [show min a b = b by omega] at H; exact H
  · rw [show min a b = a by omega] at H; exact H
theorem yw_s147 {post : Int32 → Prop} {sy l wt qu cs : Nat → Int32} {n : Nat} {z0 z1 z2 : Int32} {a b c : Nat} (h0 : z0 = nI a) (h1 : z1 = nI b) (h2 : z2 = nI c) (ha : a < 1000) (hb : b < 1000) (hc : c < 1000) (H : post (nI (min c (b + a)))) : wY_step_147 post z0 z1 z2 (nI n) l sy wt qu cs := by
  subst h0 h1 h2
  exact yw_min rfl (nI_add b a) (by omega) (by omega) H
theorem yw_s80 {post : Int32 → Prop} {sy l wt qu cs : Nat → Int32} {n : Nat} {w i j V c C : Nat} (hw : w < 10) (hi : i < 6) (hj : j < 6) (hC : cs (7 * i + j) = nI C) (bC : C < 1000) (bV : V < 1000) (bc : c < 1000)
    (H : post (nI (min V (C + (if qu i = sy (6 * w + j) then 0 else c))))) : wY_step_80 post (nI w) (nI (i + 1)) (nI (j + 1)) (nI V) (nI c) (nI n) l sy wt qu cs := by
  have e1 : qu (nI (i + 1) - 1).toNatClampNeg = qu i := by rw [nI_pred, nI_clamp (by omega)]
  have e2 : sy ((6 : Int32) * nI w + nI (j + 1) - 1).toNatClampNeg = sy (6 * w + j) := by rw [ed_iy2, nI_clamp (by omega)]
  have e3 : cs ((7 : Int32) * nI (i + 1) + nI (j + 1) - 8).toNatClampNeg = nI C := by rw [ed_ix3, nI_clamp (by omega)]; exact hC
  have v1 : vp_in (nI (i + 1) - 1) 7 := by rw [nI_pred]; exact vp_in_nI (by omega) (by omega)
  have v2 : vp_in ((6 : Int32) * nI w + nI (j + 1) - 1) 60 := by rw [ed_iy2]; exact vp_in_nI (by omega) (by omega)
  have v3 : vp_in ((7 : Int32) * nI (i + 1) + nI (j + 1) - 8) 49 := by rw [ed_ix3]; exact vp_in_nI (by omega) (by omega)
  refine br_f (nI_nle (by omega) (by omega)) (br_f (nI_nle (by omega) (by omega)) ⟨v1, v2, ?_⟩)
  by_cases he : qu i = sy (6 * w + j)
  · rw [if_pos he] at H
    exact br_t (by rw [e1, e2]; exact he) ⟨v3, br_f (by decide) (yw_s147 (a := 0) rfl e3 rfl (by omega) bC bV H)⟩
  · rw [if_neg he] at H
    exact br_f (by rw [e1, e2]; exact he) ⟨v3, br_t rfl (yw_s147 rfl e3 rfl bc bC bV H)⟩
theorem yw_stepA {post : Int32 → Prop} {sy l wt qu cs : Nat → Int32} {n : Nat} {w j C : Nat} (hj : j < 6) (hC : cs j = nI C) (bC : C < 90) (H : post (nI (C + 2))) : wpY_step post (nI n, l, sy, wt, qu, cs) (nI w) (nI 0) (nI (j + 1)) := by
  have e : cs ((7 : Int32) * nI 0 + nI (j + 1) - 1).toNatClampNeg = nI C := by rw [ed_ix2, nI_clamp (by omega), Nat.mul_zero, Nat.zero_add]; exact hC
  have v : vp_in ((7 : Int32) * nI 0 + nI (j + 1) - 1) 49 := by rw [ed_ix2]; exact vp_in_nI (by omega) (by omega)
  refine br_f (by decide) (br_t (Int32.le_refl _) (br_f (nI_nle (by omega) (by omega)) ⟨v, br_t rfl ?_⟩))
  refine yw_min (a := 100) (b := C + 2) rfl (by rw [e]; exact nI_add C 2) (by omega) (by omega) (br_t (Int32.le_refl _) ?_)
  rw [show min 100 (C + 2) = C + 2 by omega]
  exact H
theorem yw_stepB14 {post : Int32 → Prop} {sy l wt qu cs : Nat → Int32} {n : Nat} {w i C c : Nat} (hi : i < 6) (hC : cs (7 * i) = nI C) (bC : C < 90) (bc : c ≤ 2) (H : post (nI (C + c))) : wY_step_14 post (nI w) (nI (i + 1)) (nI 0) 100 (nI c) (nI n) l sy wt qu cs := by
  have e : cs ((7 : Int32) * nI (i + 1) - 7 + nI 0).toNatClampNeg = nI C := by rw [ed_ix1, nI_clamp (by omega), Nat.add_zero]; exact hC
  have v : vp_in ((7 : Int32) * nI (i + 1) - 7 + nI 0) 49 := by rw [ed_ix1]; exact vp_in_nI (by omega) (by omega)
  refine br_f (nI_nle (by omega) (by omega)) ⟨v, yw_min (a := 100) (b := C + c) rfl (by rw [e]; exact nI_add C c) (by omega) (by omega) ?_⟩
  rw [show min 100 (C + c) = C + c by omega]
  exact br_t (Int32.le_refl _) (br_f (nI_nle (by omega) (by omega)) (br_t (Int32.le_refl _) H))
theorem yw_stepC14 {post : Int32 → Prop} {sy l wt qu cs : Nat → Int32} {n : Nat} {w i j U A C c V : Nat} (hw : w < 10) (hi : i < 6) (hj : j < 6) (hU : cs (7 * i + (j + 1)) = nI U) (hA : cs (7 * (i + 1) + j) = nI A) (hC : cs (7 * i + j) = nI C) (bU : U < 90) (bA : A < 90) (bC : C < 90) (bc : c ≤ 2)
    (hV : V = min (A + 1) (min (C + (if qu i = sy (6 * w + j) then 0 else c)) (U + c))) (H : post (nI V)) : wY_step_14 post (nI w) (nI (i + 1)) (nI (j + 1)) 100 (nI c) (nI n) l sy wt qu cs := by
  have e1 : cs ((7 : Int32) * nI (i + 1) - 7 + nI (j + 1)).toNatClampNeg = nI U := by rw [ed_ix1, nI_clamp (by omega)]; exact hU
  have v1 : vp_in ((7 : Int32) * nI (i + 1) - 7 + nI (j + 1)) 49 := by rw [ed_ix1]; exact vp_in_nI (by omega) (by omega)
  have e2 : cs ((7 : Int32) * nI (i + 1) + nI (j + 1) - 1).toNatClampNeg = nI A := by rw [ed_ix2, nI_clamp (by omega)]; exact hA
  have v2 : vp_in ((7 : Int32) * nI (i + 1) + nI (j + 1) - 1) 49 := by rw [ed_ix2]; exact vp_in_nI (by omega) (by omega)
  refine br_f (nI_nle (by omega) (by omega)) ⟨v1, yw_min (a := 100) (b := U + c) rfl (by rw [e1]; exact nI_add U c) (by omega) (by omega) ?_⟩
  refine br_f (nI_nle (by omega) (by omega)) ⟨v2, br_f (nI_ne0 (by omega) (by omega)) ?_⟩
  refine yw_min (a := min 100 (U + c)) (b := A + 1) rfl (by rw [e2]; exact nI_add A 1) (by omega) (by omega) ?_
  refine yw_s80 hw hi hj hC (by omega) (by omega) (by omega) ?_
  rw [show min (min (min 100 (U + c)) (A + 1)) (C + (if qu i = sy (6 * w + j) then 0 else c)) = V by rw [hV]; omega]
  exact H
theorem yw_first {post : Int32 → Prop} {sy l wt qu cs : Nat → Int32} {n : Nat} {w i : Nat} (hi : i < 6) {y : Int32} (H : wY_step_14 post (nI w) (nI (i + 1)) y 100 (nI (ed_ch i)) (nI n) l sy wt qu cs) : wpY_step post (nI n, l, sy, wt, qu, cs) (nI w) (nI (i + 1)) y := by
  refine pk_eq (i + 1) 1 (fun z => ?_) (fun z => ?_)
  · rw [show ed_ch i = 2 by unfold ed_ch; rw [if_pos (by omega)]] at H; exact H
  · rw [show ed_ch i = 1 by unfold ed_ch; rw [if_neg (by omega)]] at H; exact H
theorem yw_step {post : Int32 → Prop} {sy l wt qu cs : Nat → Int32} {n : Nat} {w i j m : Nat} (hw : w < 10) (hi : i ≤ 6) (hj : j ≤ m) (hm : m ≤ 6) (h0 : ¬ (i = 0 ∧ j = 0)) (h : ed_D qu (fun j => sy (6 * w + j)) m i j cs) (H : post (nI (ed_c qu (fun j => sy (6 * w + j)) i j))) : wpY_step post (nI n, l, sy, wt, qu, cs) (nI w) (nI i) (nI j) := by
  rcases i with _ | i
  · rcases j with _ | j
    · exact absurd ⟨rfl, rfl⟩ h0
    · have hC := h.2 j (by omega)
      rw [Nat.mul_zero, Nat.zero_add, ed_c0] at hC
      refine yw_stepA (by omega) hC (by omega) ?_
      rw [ed_c0, show 2 * (j + 1) = 2 * j + 2 by omega] at H
      exact H
  · have bc := ed_ch2 i
    rcases j with _ | j
    · have hC := h.1 i 0 (by omega) (by omega)
      have bC := ed_cle qu (fun j => sy (6 * w + j)) i 0
      exact yw_first (by omega) (yw_stepB14 (by omega) hC (by omega) bc H)
    · have hU := h.1 i (j + 1) (by omega) hj
      have hA := h.2 j (by omega)
      have hC := h.1 i j (by omega) (by omega)
      have bU := ed_cle qu (fun j => sy (6 * w + j)) i (j + 1)
      have bA := ed_cle qu (fun j => sy (6 * w + j)) (i + 1) j
      have bC := ed_cle qu (fun j => sy (6 * w + j)) i j
      exact yw_first (by omega) (yw_stepC14 hw (by omega) (by omega) hU hA hC (by omega) (by omega) (by omega) bc (ed_cs qu (fun j => sy (6 * w + j)) i j) H)
theorem yw_ed16 {post : Int32 → SY → Prop} {J : Int32 → (Nat → Int32) → (Nat → Int32) → (Nat → Int32) → (Nat → Int32) → (Nat → Int32) → Prop} {sy l wt qu : Nat → Int32} {n : Nat} (hl : ed_ok l) {w i : Nat} {x2 : Int32} (hw : w < 10) (hi : i ≤ 6)
    (HJ : ∀ cs', ed_D qu (fun j => sy (6 * w + j)) (ed_tl l w) (i + 1) 0 cs' → J (nI (i + 1)) l sy wt qu cs') :
    ∀ d j cs, j + d = ed_tl l w + 1 → ed_D qu (fun j => sy (6 * w + j)) (ed_tl l w) i j cs → wY_edits_16 post J (nI w) x2 (nI i) (nI n) (d + 1) (nI j) l sy wt qu cs := by
  have hm := ed_ok2 hl w
  have hiw : vp_in (nI w) 10 := vp_in_nI hw (by omega)
  intro d
  induction d with
  | zero =>
    intro j cs hj h
    have e : j = ed_tl l w + 1 := by omega
    rw [e] at h
    refine ⟨hiw, br_t ?_ (nm_r (nI_1 i) (HJ cs (ed_Dn h)))⟩
    rw [ed_la hl hw]
    exact nI_lt (by omega) (by omega)
  | succ d ih =>
    intro j cs hj h
    have hn : ¬ l (nI w).toNatClampNeg < nI j := by rw [ed_la hl hw]; exact nI_nlt (by omega) (by omega)
    have next := ih (j + 1) _ (by omega) (ed_Ds h (by omega) hm)
    have v : vp_in ((7 : Int32) * nI i + nI j) 49 := by rw [ed_ix4]; exact vp_in_nI (by omega) (by omega)
    have ei : ((7 : Int32) * nI i + nI j).toNatClampNeg = 7 * i + j := by rw [ed_ix4, nI_clamp (by omega)]
    have g : ¬ (i = 0 ∧ j = 0) → wY_edits_51 post J (wY_edits_16 post J (nI w) x2 (nI i) (nI n) (d + 1)) (nI w) x2 (nI i) (nI j) ((7 : Int32) * nI i + nI j) (nI n) l sy wt qu cs := fun z =>
      yw_step hw hi (by omega) hm z h ⟨v, nm_r (by rw [ei]) (nm_r (nI_1 j) next)⟩
    refine ⟨hiw, br_f hn (pk_eq i 0 (fun z => pk_eq j 0 (fun y => ⟨v, nm_r (e' := upd cs (7 * i + j) (nI (ed_c qu (fun j => sy (6 * w + j)) i j))) ?_ (nm_r (nI_1 j) next)⟩) (fun y => g (fun q => y q.2))) (fun z => g (fun q => z q.1)))⟩
    rw [ei, z, y]
    rfl
theorem yw_ed74 {post : Int32 → SY → Prop} {sy l wt qu cs : Nat → Int32} {n : Nat} (hl : ed_ok l) (hn : n ≤ 6) {w : Nat} (hw : w < 10) {r : Nat → Nat} (hr : ∀ t, t ≤ ed_tl l w → cs (7 * n + t) = nI (r t)) (hb : ∀ t, t ≤ 6 → r t < 90) (H : post (nI (ed_m r (ed_tl l w))) (nI n, l, sy, wt, qu, cs)) :
    ∀ d j, j + d = ed_tl l w → wY_edits_74 post (nI w) (nI n) l sy wt qu cs (d + 1) (nI (ed_m r j)) (nI (j + 1)) := by
  have hm := ed_ok2 hl w
  have hiw : vp_in (nI w) 10 := vp_in_nI hw (by omega)
  have h0 := hb 0 (by omega)
  intro d
  induction d with
  | zero =>
    intro j hj
    have e : ed_tl l w = j := by omega
    rw [e] at H
    refine ⟨hiw, br_t ?_ H⟩
    rw [ed_la hl hw]
    exact nI_lt (by omega) (by omega)
  | succ d ih =>
    intro j hj
    have hx : ¬ l (nI w).toNatClampNeg < nI (j + 1) := by rw [ed_la hl hw]; exact nI_nlt (by omega) (by omega)
    have ec : cs ((7 : Int32) * nI n + nI (j + 1)).toNatClampNeg = nI (r (j + 1)) := by rw [ed_ix4, nI_clamp (by omega)]; exact hr (j + 1) (by omega)
    have v : vp_in ((7 : Int32) * nI n + nI (j + 1)) 49 := by rw [ed_ix4]; exact vp_in_nI (by omega) (by omega)
    have bm := ed_mle r j
    have br := hb (j + 1) (by omega)
    exact ⟨hiw, br_f hx ⟨v, yw_min rfl ec (by omega) (by omega) (nm_r (nI_1 (j + 1)) (ih (j + 1) (by omega)))⟩⟩
theorem yw_ed74a {post : Int32 → SY → Prop} {sy l wt qu cs : Nat → Int32} {n : Nat} (hl : ed_ok l) (hn : n ≤ 6) {w : Nat} (hw : w < 10) {r : Nat → Nat} (hr : ∀ t, t ≤ ed_tl l w → cs (7 * n + t) = nI (r t)) (hb : ∀ t, t ≤ 6 → r t < 90) (H : post (nI (ed_m r (ed_tl l w))) (nI n, l, sy, wt, qu, cs)) :
    wY_edits_74 post (nI w) (nI n) l sy wt qu cs (ed_tl l w + 2) (nI 100) (nI 0) := by
  have hm := ed_ok2 hl w
  have hiw : vp_in (nI w) 10 := vp_in_nI hw (by omega)
  have h0 := hb 0 (by omega)
  have hx : ¬ l (nI w).toNatClampNeg < nI 0 := by rw [ed_la hl hw]; exact nI_nlt (by omega) (by omega)
  have ec : cs ((7 : Int32) * nI n + nI 0).toNatClampNeg = nI (r 0) := by rw [ed_ix4, nI_clamp (by omega)]; exact hr 0 (by omega)
  have v : vp_in ((7 : Int32) * nI n + nI 0) 49 := by rw [ed_ix4]; exact vp_in_nI (by omega) (by omega)
  have next := yw_ed74 (post := post) hl hn hw hr hb H (ed_tl l w) 0 (by omega)
  refine ⟨hiw, br_f hx ⟨v, yw_min (a := 100) (b := r 0) rfl ec (by omega) (by omega) (nm_r (nI_1 0) ?_)⟩⟩
  rw [show min 100 (r 0) = ed_m r 0 by show min 100 (r 0) = r 0; omega]
  exact next
theorem yw_ed5 {post : Int32 → SY → Prop} {sy l wt qu : Nat → Int32} {n : Nat} (hl : ed_ok l) (hn : n ≤ 6) {w : Nat} (hw : w < 10) (H : ∀ cs', post (nI (ed_ty l sy qu n w)) (nI n, l, sy, wt, qu, cs')) :
    ∀ d i cs, i + d = n + 1 → ed_D qu (fun j => sy (6 * w + j)) (ed_tl l w) i 0 cs → wY_edits_5 post (nI w) 100 (nI n) (d + 1) (nI i) l sy wt qu cs := by
  intro d
  induction d with
  | zero =>
    intro i cs hi h
    have e : i = n + 1 := by omega
    subst e
    exact br_t (nI_lt (by omega) (by omega)) ⟨ed_tl l w + 2, yw_ed74a hl hn hw (r := ed_c qu (fun j => sy (6 * w + j)) n) (fun t ht => h.1 n t (by omega) ht) (fun t ht => by have := ed_cle qu (fun j => sy (6 * w + j)) n t; omega) (H cs)⟩
  | succ d ih =>
    intro i cs hi h
    exact br_f (nI_nlt (by omega) (by omega)) ⟨ed_tl l w + 2, yw_ed16 hl hw (by omega) (fun cs' h' => ih (i + 1) cs' (by omega) h') (ed_tl l w + 1) 0 cs (by omega) h⟩
theorem yw_edits {post : Int32 → SY → Prop} {sy l wt qu cs : Nat → Int32} {n : Nat} (hl : ed_ok l) (hn : n ≤ 6) {w : Nat} (hw : w < 10) (H : ∀ cs', post (nI (ed_ty l sy qu n w)) (nI n, l, sy, wt, qu, cs')) : wpY_edits post (nI n, l, sy, wt, qu, cs) (nI w) :=
  ⟨n + 2, yw_ed5 hl hn hw H (n + 1) 0 cs (by omega) ed_D0⟩
end
section
/-! Y: found, counts, bits, order, hints, common -/
theorem yw_f25 {post : Int32 → SY → Prop} {sy l wt qu cs : Nat → Int32} {n : Nat} (hl : ed_ok l) (hn : n ≤ 6) {w : Nat} (hw : w < 10) (H : ∀ cs', post (ed_bI (ed_fd l sy qu n w)) (nI n, l, sy, wt, qu, cs')) : wY_isFound_25 post (nI w) (nI (ed_fg n)) (nI n) l sy wt qu cs := by
  have b1 := ed_tyle l sy qu n w
  have b2 := ed_fgle n
  unfold wY_isFound_25
  refine yw_is hl hw (ed_gX (fun z => ?_) (fun z => ?_))
  · refine yw_edits hl hn hw fun cs' => pk_lt (ed_fg n) (ed_ty l sy qu n w) (fun h => ?_) (fun h => ?_)
    · have g := H cs'; rw [ed_fdf (by omega)] at g; exact g
    · have g := H cs'; rw [ed_fdt (ed_wd1 z) h] at g; exact g
  · have g := H cs; rw [ed_fd0 (ed_wd0 z)] at g; exact g
theorem yw_isFound {post : Int32 → SY → Prop} {sy l wt qu cs : Nat → Int32} {n : Nat} (hl : ed_ok l) (hn : n ≤ 6) {w : Nat} (hw : w < 10) (H : ∀ cs', post (ed_bI (ed_fd l sy qu n w)) (nI n, l, sy, wt, qu, cs')) : wpY_isFound post (nI n, l, sy, wt, qu, cs) (nI w) := by
  have g := yw_f25 (cs := cs) hl hn hw H
  unfold wpY_isFound
  refine pk_le 3 n (fun h3 => pk_le 5 n (fun h5 => ?_) (fun h5 => ?_)) (fun h3 => ?_)
  · rw [show ed_fg n = 2 by unfold ed_fg; rw [if_neg (by omega), if_neg (by omega)]] at g; exact g
  · rw [show ed_fg n = 1 by unfold ed_fg; rw [if_neg (by omega), if_pos (by omega)]] at g; exact g
  · rw [show ed_fg n = 0 by unfold ed_fg; rw [if_pos (by omega)]] at g; exact g
theorem yw_isFoundN {post : Int32 → SY → Prop} {sy l wt qu cs : Nat → Int32} {n : Nat} {x : Int32} (h : ed_out x) (H : post 0 (nI n, l, sy, wt, qu, cs)) : wpY_isFound post (nI n, l, sy, wt, qu, cs) x := by
  have g : ∀ z0, wY_isFound_25 post x z0 (nI n) l sy wt qu cs := fun z0 => by
    unfold wY_isFound_25
    exact yw_isN h (br_t rfl H)
  unfold wpY_isFound
  exact br_c (fun _ => br_c (fun _ => g 2) (fun _ => g 1)) (fun _ => g 0)
theorem yw_found4 {post : Int32 → SY → Prop} {sy l wt qu : Nat → Int32} {n : Nat} (hl : ed_ok l) (hn : n ≤ 6) (H : ∀ cs', post (ed_bx (ed_fd l sy qu n) 10) (nI n, l, sy, wt, qu, cs')) :
    ∀ d k cs, k + d = 10 → wY_found_4 post (d + 1) (ed_bx (ed_fd l sy qu n) k) (nI k) (nI n) l sy wt qu cs := by
  intro d
  induction d with
  | zero =>
    intro k cs hk
    have e : k = 10 := by omega
    subst e
    exact br_t ed_10 (H cs)
  | succ d ih =>
    intro k cs hk
    refine br_f (ed_w10 (by omega)) (yw_isFound hl hn (by omega) fun c1 => ed_gX (fun z => ?_) (fun z => ?_))
    · exact nm_r (ed_bxt z).symm (nm_r (nI_1 k) (ih (k + 1) c1 (by omega)))
    · exact nm_r (nI_1 k) (by have next := ih (k + 1) c1 (by omega); rw [ed_bxf z] at next; exact next)
theorem yw_found {post : Int32 → SY → Prop} {sy l wt qu cs : Nat → Int32} {n : Nat} (hl : ed_ok l) (hn : n ≤ 6) (H : ∀ cs', post (ed_bx (ed_fd l sy qu n) 10) (nI n, l, sy, wt, qu, cs')) : wpY_found post (nI n, l, sy, wt, qu, cs) :=
  ⟨11, yw_found4 hl hn H 10 0 cs rfl⟩
theorem yw_words4 {post : Int32 → Prop} {sy l wt qu cs : Nat → Int32} {n : Nat} (hl : ed_ok l) (H : post (ed_bx (ed_wd l) 10)) :
    ∀ d k, k + d = 10 → wY_words_4 post (nI n) l sy wt qu cs (d + 1) (ed_bx (ed_wd l) k) (nI k) := by
  intro d
  induction d with
  | zero =>
    intro k hk
    have e : k = 10 := by omega
    subst e
    exact br_t ed_10 H
  | succ d ih =>
    intro k hk
    refine br_f (ed_w10 (by omega)) (yw_is hl (by omega) (ed_gX (fun z => ?_) (fun z => ?_)))
    · exact nm_r (ed_bxt z).symm (nm_r (nI_1 k) (ih (k + 1) (by omega)))
    · exact nm_r (nI_1 k) (by have next := ih (k + 1) (by omega); rw [ed_bxf z] at next; exact next)
theorem yw_words {post : Int32 → Prop} {sy l wt qu cs : Nat → Int32} {n : Nat} (hl : ed_ok l) (H : post (ed_bx (ed_wd l) 10)) : wpY_words post (nI n, l, sy, wt, qu, cs) :=
  ⟨11, yw_words4 hl H 10 0 rfl⟩
theorem ed_cnI (b : Nat → Bool) (k : Nat) : nI (ed_cn b k) + ed_bI (b k) = nI (ed_cn b (k + 1)) := by
  by_cases h : b k = true
  · rw [ed_cnt h, h]; exact nI_1 _
  · rw [ed_cnf (ed_ff h), ed_ff h]; exact Int32.add_zero _
theorem yw_count9 {post : Int32 → SY → Prop} {sy l wt qu cs : Nat → Int32} {n : Nat} (b : Nat → Bool) (H : post (nI (ed_cn b 10)) (nI n, l, sy, wt, qu, cs)) :
    ∀ d k, k + d = 10 → wY_count_9 post (ed_bx b 10) (nI n) l sy wt qu cs (d + 1) (nI (ed_cn b k)) (nI k) := by
  intro d
  induction d with
  | zero =>
    intro k hk
    have e : k = 10 := by omega
    subst e
    exact br_t ed_10 H
  | succ d ih =>
    intro k hk
    exact br_f (ed_w10 (by omega)) (nm_r (by rw [ed_bit b k (by omega)]; exact ed_cnI b k) (nm_r (nI_1 k) (ih (k + 1) (by omega))))
theorem yw_count {post : Int32 → SY → Prop} {sy l wt qu cs : Nat → Int32} {n : Nat} (hl : ed_ok l) (hn : n ≤ 6) (H : ∀ cs', post (nI (ed_cn (ed_fd l sy qu n) 10)) (nI n, l, sy, wt, qu, cs')) : wpY_count post (nI n, l, sy, wt, qu, cs) := by
  unfold wpY_count
  exact yw_found hl hn fun c1 => ⟨11, yw_count9 _ (H c1) 10 0 rfl⟩
theorem yw_ex0 {post : Int32 → Prop} {sy l wt qu cs : Nat → Int32} {n : Nat} {x y : Int32} {f : Nat} (H : post 0) : wY_exact_21 post x (nI n) l sy wt qu cs (f + 1) 0 y :=
  br_c (fun _ => ⟨ed_nb false, H⟩) (fun _ => br_t rfl ⟨ed_nb false, H⟩)
theorem yw_exact21 {post : Int32 → Prop} {sy l wt qu cs : Nat → Int32} {n : Nat} (hn : n ≤ 6) {w : Nat} (hw : w < 10) (hL : ed_tl l w = n) (H : post (ed_bI (ed_ex l sy qu n w))) :
    ∀ d i, i + d = n → (∀ t, t < i → sy (6 * w + t) = qu t) → wY_exact_21 post (nI w) (nI n) l sy wt qu cs (d + 2) 1 (nI i) := by
  intro d
  induction d with
  | zero =>
    intro i hi h
    have e : i = n := by omega
    subst e
    rw [ed_ext hL h] at H
    exact br_t (Int32.le_refl _) ⟨ed_nb true, H⟩
  | succ d ih =>
    intro i hi h
    have e1 : sy ((6 : Int32) * nI w + nI i).toNatClampNeg = sy (6 * w + i) := by rw [ed_iy1, nI_clamp (by omega)]
    have v1 : vp_in ((6 : Int32) * nI w + nI i) 60 := by rw [ed_iy1]; exact vp_in_nI (by omega) (by omega)
    have e2 : qu (nI i).toNatClampNeg = qu i := ed_cI (by omega)
    refine br_f (nI_ge (by omega) (by omega)) (br_f (by decide) ⟨v1, vp_in_nI (by omega) (by omega), ?_⟩)
    by_cases he : sy (6 * w + i) = qu i
    · exact br_t (by rw [e1, e2]; exact he) (nm_r (nI_1 i) (ih (i + 1) (by omega) (lt_s h he)))
    · rw [ed_exi i (by omega) he] at H
      exact br_f (by rw [e1, e2]; exact he) (nm_r (nI_1 i) (yw_ex0 H))
theorem yw_exact {post : Int32 → Prop} {sy l wt qu cs : Nat → Int32} {n : Nat} (hl : ed_ok l) (hn : n ≤ 6) {w : Nat} (hw : w < 10) (H : post (ed_bI (ed_ex l sy qu n w))) : wpY_exact post (nI n, l, sy, wt, qu, cs) (nI w) := by
  have hm := ed_ok2 hl w
  refine ⟨vp_in_nI hw (by omega), pk_eq (ed_tl l w) n (fun h => ⟨n + 2, yw_exact21 hn hw h H n 0 (by omega) lt_0⟩) (fun h => ⟨1, yw_ex0 ?_⟩) (ed_la hl hw) rfl⟩
  rw [ed_exl h] at H
  exact H
theorem yw_before {post : Int32 → SY → Prop} {sy l wt qu cs : Nat → Int32} {n : Nat} (hl : ed_ok l) (hn : n ≤ 6) {a b : Nat} (ha : a < 10) (hb : b < 10) (H : ∀ cs', post (ed_bI (ed_gb l sy wt qu n a b)) (nI n, l, sy, wt, qu, cs')) : wpY_before post (nI n, l, sy, wt, qu, cs) (nI a) (nI b) := by
  have t1 := ed_tyle l sy qu n a
  have t2 := ed_tyle l sy qu n b
  have m1 := ed_ok2 hl a
  have m2 := ed_ok2 hl b
  have via : vp_in (nI a) 10 := vp_in_nI ha (by omega)
  have vib : vp_in (nI b) 10 := vp_in_nI hb (by omega)
  have ea : wt (nI a).toNatClampNeg = wt a := ed_cI (by omega)
  have eb : wt (nI b).toNatClampNeg = wt b := ed_cI (by omega)
  unfold ed_gb at H
  unfold wpY_before
  refine yw_edits hl hn ha (fun c1 => yw_edits hl hn hb (fun c2 => yw_exact hl hn ha (yw_exact hl hn hb (pk_eq (ed_ty l sy qu n a) (ed_ty l sy qu n b) (fun h1 => ?_) (fun h1 => ?_)))))
  · rw [if_pos h1] at H
    by_cases h2 : ed_ex l sy qu n a = ed_ex l sy qu n b
    · rw [if_pos h2] at H
      refine br_t (by rw [h2]) ⟨via, vib, pk_eq (ed_tl l a) (ed_tl l b) (fun h3 => ⟨via, vib, ?_⟩) (fun h3 => ⟨via, vib, pk_le (ed_tl l b) (ed_tl l a) (fun h4 => ?_) (fun h4 => ?_) (ed_la hl hb) (ed_la hl ha)⟩) (ed_la hl ha) (ed_la hl hb)⟩
      · rw [if_pos h3] at H
        by_cases h4 : wt a = wt b
        · rw [if_pos h4] at H
          refine br_f (by rw [ea, eb, h4]; exact Int32.lt_irrefl) ⟨via, vib, br_t (by rw [ea, eb]; exact h4) (pk_le b a (fun h5 => ?_) (fun h5 => ?_))⟩
          · have g := H c2; rw [decide_eq_false (by omega)] at g; exact g
          · have g := H c2; rw [decide_eq_true (by omega)] at g; exact g
        · rw [if_neg h4] at H
          by_cases h5 : wt b < wt a
          · have g := H c2; rw [decide_eq_true h5] at g
            exact br_t (by rw [ea, eb]; exact h5) g
          · have g := H c2; rw [decide_eq_false h5] at g
            exact br_f (by rw [ea, eb]; exact h5) ⟨via, vib, br_f (by rw [ea, eb]; exact h4) g⟩
      · have g := H c2; rw [if_neg h3, decide_eq_false (by omega)] at g; exact g
      · have g := H c2; rw [if_neg h3, decide_eq_true (by omega)] at g; exact g
    · rw [if_neg h2] at H
      exact br_f (fun z => h2 (ed_bInj z)) ⟨ed_nb _, H c2⟩
  · rw [if_neg h1] at H
    refine pk_le (ed_ty l sy qu n b) (ed_ty l sy qu n a) (fun h4 => ?_) (fun h4 => ?_)
    · have g := H c2; rw [decide_eq_false (by omega)] at g; exact g
    · have g := H c2; rw [decide_eq_true (by omega)] at g; exact g
theorem yw_place14 {post : Int32 → SY → Prop} {sy l wt qu : Nat → Int32} {n : Nat} (hl : ed_ok l) (hn : n ≤ 6) {w : Nat} (hw : w < 10) (H : ∀ cs', post (nI (ed_cb l sy wt qu n w)) (nI n, l, sy, wt, qu, cs')) :
    ∀ d k cs, k + d = 10 → wY_place_14 post (nI w) (d + 1) (nI (ed_cn (ed_be l sy wt qu n w) k)) (nI k) (nI n) l sy wt qu cs := by
  intro d
  induction d with
  | zero =>
    intro k cs hk
    have e : k = 10 := by omega
    subst e
    exact br_t ed_10 (H cs)
  | succ d ih =>
    intro k cs hk
    have nf : ∀ c1, ed_be l sy wt qu n w k = false → wY_place_14 post (nI w) (d + 1) (nI (ed_cn (ed_be l sy wt qu n w) k)) (nI (k + 1)) (nI n) l sy wt qu c1 := by
      intro c1 z
      have next := ih (k + 1) c1 (by omega)
      rw [ed_cnf z] at next
      exact next
    refine br_f (ed_w10 (by omega)) (pk_eq k w (fun h => nm_r (nI_1 k) (nf cs (ed_beq h))) (fun h => ?_))
    refine yw_isFound hl hn (by omega) fun c1 => ed_gX (fun z => ?_) (fun z => nm_r (nI_1 k) (nf c1 (ed_bef z)))
    refine yw_before hl hn (by omega) hw fun c2 => ed_gX (fun y => ?_) (fun y => nm_r (nI_1 k) (nf c2 (by rw [ed_ben h z]; exact y)))
    have next := ih (k + 1) c2 (by omega)
    rw [ed_cnt (by rw [ed_ben h z]; exact y)] at next
    exact nm_r (nI_1 _) (nm_r (nI_1 k) next)
theorem yw_place {post : Int32 → SY → Prop} {sy l wt qu cs : Nat → Int32} {n : Nat} (hl : ed_ok l) (hn : n ≤ 6) {w : Nat} (hw : w < 10) (H : ∀ cs', post (ed_pl l sy wt qu n w) (nI n, l, sy, wt, qu, cs')) : wpY_place post (nI n, l, sy, wt, qu, cs) (nI w) := by
  unfold wpY_place
  refine yw_isFound hl hn hw fun c1 => ed_gX (fun z => ?_) (fun z => ?_)
  · rw [ed_plt z] at H
    exact ⟨11, yw_place14 hl hn hw H 10 0 c1 rfl⟩
  · rw [ed_plf z] at H
    exact H c1
theorem yw_at2 {post : Int32 → SY → Prop} {sy l wt qu : Nat → Int32} {n : Nat} (hl : ed_ok l) (hn : n ≤ 6) {x : Int32} :
    ∀ d w cs, w + d = 10 → (∀ cs', post (ed_at (ed_ap l sy wt qu n x) d w) (nI n, l, sy, wt, qu, cs')) → wY_at_2 post x (d + 1) (nI w) (nI n) l sy wt qu cs := by
  intro d
  induction d with
  | zero =>
    intro w cs hk H
    have e : w = 10 := by omega
    subst e
    exact br_t ed_10 (H cs)
  | succ d ih =>
    intro w cs hk H
    refine br_f (ed_w10 (by omega)) (yw_isFound hl hn (by omega) fun c1 => ed_gX (fun z => ?_) (fun z => nm_r (nI_1 w) (ih (w + 1) c1 (by omega) ?_)))
    · refine yw_place hl hn (by omega) fun c2 => ?_
      rw [ed_plt z]
      refine br_c (fun h => ?_) (fun h => nm_r (nI_1 w) (ih (w + 1) c2 (by omega) ?_))
      · rw [ed_att (ed_apt z h)] at H; exact H c2
      · rw [ed_atf (ed_apn h)] at H; exact H
    · rw [ed_atf (ed_apf z)] at H; exact H
theorem yw_at {post : Int32 → SY → Prop} {sy l wt qu cs : Nat → Int32} {n : Nat} (hl : ed_ok l) (hn : n ≤ 6) {x : Int32} (H : ∀ cs', post (ed_at (ed_ap l sy wt qu n x) 10 0) (nI n, l, sy, wt, qu, cs')) : wpY_at post (nI n, l, sy, wt, qu, cs) x :=
  ⟨11, yw_at2 hl hn 10 0 cs rfl H⟩
theorem yw_type {post : Int32 → SY → Prop} {sy l wt qu cs : Nat → Int32} {n : Nat} (hl : ed_ok l) (hn : n < 6) {x : Int32} (h0 : ¬ x < 0) (h3 : x ≤ 3) (H : ∀ cs', post (nI (ed_cn (ed_fd l sy (upd qu n x) (n + 1)) 10)) (nI (n + 1), l, sy, wt, upd qu n x, cs')) : wpY_type post (nI n, l, sy, wt, qu, cs) x := by
  unfold wpY_type
  refine br_f h0 (br_t h3 (br_t (nI_lt (b := 6) hn (by decide)) ⟨vp_in_nI (by omega) (by omega), nm_r (e' := upd qu n x) (by rw [nI_clamp (by omega)]) (nm_r (nI_1 n) ?_)⟩))
  exact yw_count hl (n := n + 1) hn H
theorem yw_rub {post : Int32 → SY → Prop} {sy l wt qu cs : Nat → Int32} {n : Nat} (hn : n < 7) (H : post (qu n) (nI n, l, sy, wt, qu, cs)) : wpY_rub post (nI (n + 1), l, sy, wt, qu, cs) := by
  unfold wpY_rub
  refine br_f (nI_ne0 (by omega) (by omega)) (nm_r (nI_pred n) ⟨vp_in_nI hn (by omega), ?_⟩)
  rw [nI_clamp (by omega)]
  exact H
theorem ed_s4 : ∀ s, s < 4 → ¬ nI s < 0 ∧ nI s ≤ 3 := by decide
theorem yw_hints4 {post : Int32 → SY → Prop} {sy l wt qu : Nat → Int32} {n : Nat} (hl : ed_ok l) (hn : n < 6) (H : ∀ cs', post (ed_bx (ed_hb l sy qu n) 4) (nI n, l, sy, wt, ed_hq qu n 4, cs')) :
    ∀ d s cs, s + d = 4 → wY_hints_4 post (d + 1) (ed_bx (ed_hb l sy qu n) s) (nI s) (nI n) l sy wt (ed_hq qu n s) cs := by
  intro d
  induction d with
  | zero =>
    intro s cs hk
    have e : s = 4 := by omega
    subst e
    exact br_t (Int32.le_refl _) (H cs)
  | succ d ih =>
    intro s cs hk
    have hs := ed_s4 s (by omega)
    refine br_f (nI_ge (b := 4) (by omega) (by decide)) (br_f (nI_ge (b := 6) hn (by decide)) ?_)
    refine yw_type hl hn hs.1 hs.2 fun c1 => yw_found hl (n := n + 1) hn fun c2 => br_c (fun h => ?_) (fun h => ?_)
    · have z := (ed_bxcn _).mp h
      have next := ih (s + 1) c2 (by omega)
      rw [ed_bxf (ed_hbf z)] at next
      exact yw_rub (by omega) (nm_r (nI_1 s) next)
    · have z : 0 < ed_cn (ed_fd l sy (ed_hq qu n (s + 1)) (n + 1)) 10 := Nat.pos_of_ne_zero fun e => h ((ed_bxcn _).mpr e)
      have next := ih (s + 1) c2 (by omega)
      rw [ed_bxt (ed_hbt z)] at next
      exact yw_rub (by omega) (nm_r (nI_1 s) next)
theorem yw_hints {post : Int32 → SY → Prop} {sy l wt qu cs : Nat → Int32} {n : Nat} (hl : ed_ok l) (hn : n < 6) (H : ∀ cs', post (ed_bx (ed_hb l sy qu n) 4) (nI n, l, sy, wt, ed_hq qu n 4, cs')) : wpY_hints post (nI n, l, sy, wt, qu, cs) :=
  ⟨5, yw_hints4 hl hn H 4 0 cs rfl⟩
theorem yw_hintsF {post : Int32 → SY → Prop} {sy l wt qu cs : Nat → Int32} {n : Nat} (hn : n = 6) (H : post 0 (nI n, l, sy, wt, qu, cs)) : wpY_hints post (nI n, l, sy, wt, qu, cs) :=
  ⟨1, br_f (by decide) (br_t (by rw [hn]; decide) H)⟩
theorem yw_sharedL {post : Int32 → Prop} {sy l wt qu cs : Nat → Int32} {n : Nat} (hl : ed_ok l) {a b : Nat} (ha : a < 10) (hb : b < 10) (H : ∀ r, (∀ t, t ≤ r ↔ ed_S l sy a b t) → post (nI r)) :
    ∀ d i, i + d = 6 → i ≤ ed_tl l a → i ≤ ed_tl l b → (∀ t, t < i → sy (6 * a + t) = sy (6 * b + t)) → wY_shared_2 post (nI a) (nI b) (nI n) l sy wt qu cs (d + 1) (nI i) := by
  have hm := ed_ok2 hl b
  have hma := ed_ok2 hl a
  intro d
  induction d with
  | zero =>
    intro i hi h1 h2 h3
    refine ⟨vp_in_nI ha (by omega), pk_le (ed_tl l a) i (fun h => H i (ed_spec h1 h2 h3 (Or.inl h))) (fun h => ?_) (ed_la hl ha) rfl⟩
    exact absurd h (by omega)
  | succ d ih =>
    intro i hi h1 h2 h3
    refine ⟨vp_in_nI ha (by omega), pk_le (ed_tl l a) i (fun h => H i (ed_spec h1 h2 h3 (Or.inl h))) (fun h => ⟨vp_in_nI hb (by omega), pk_le (ed_tl l b) i (fun h => H i (ed_spec h1 h2 h3 (Or.inr (Or.inl h)))) (fun h' => ?_) (ed_la hl hb) rfl⟩) (ed_la hl ha) rfl⟩
    have v1 : vp_in ((6 : Int32) * nI a + nI i) 60 := by rw [ed_iy1]; exact vp_in_nI (by omega) (by omega)
    have v2 : vp_in ((6 : Int32) * nI b + nI i) 60 := by rw [ed_iy1]; exact vp_in_nI (by omega) (by omega)
    have e1 : sy ((6 : Int32) * nI a + nI i).toNatClampNeg = sy (6 * a + i) := by rw [ed_iy1, nI_clamp (by omega)]
    have e2 : sy ((6 : Int32) * nI b + nI i).toNatClampNeg = sy (6 * b + i) := by rw [ed_iy1, nI_clamp (by omega)]
    refine ⟨v1, v2, ?_⟩
    by_cases he : sy (6 * a + i) = sy (6 * b + i)
    · exact br_t (by rw [e1, e2]; exact he) (nm_r (nI_1 i) (ih (i + 1) (by omega) (by omega) (by omega) (lt_s h3 he)))
    · exact br_f (by rw [e1, e2]; exact he) (H i (ed_spec h1 h2 h3 (Or.inr (Or.inr he))))
theorem yw_shared {post : Int32 → Prop} {sy l wt qu cs : Nat → Int32} {n : Nat} (hl : ed_ok l) {a b : Nat} (ha : a < 10) (hb : b < 10) (H : ∀ r, (∀ t, t ≤ r ↔ ed_S l sy a b t) → post (nI r)) : wpY_shared post (nI n, l, sy, wt, qu, cs) (nI a) (nI b) :=
  ⟨7, yw_sharedL hl ha hb H 6 0 rfl (by omega) (by omega) lt_0⟩
theorem ed_bitT (b : Nat → Bool) {w : Nat} (hw : w < 10) (h : b w = true) : ((ed_bx b 10 >>> (nI w &&& 31)) &&& 1) = 1 := by rw [ed_bit b w hw, h]; rfl
theorem ed_bitF (b : Nat → Bool) {w : Nat} (hw : w < 10) (h : b w = false) : ¬ ((ed_bx b 10 >>> (nI w &&& 31)) &&& 1) = 1 := by rw [ed_bit b w hw, h]; decide
theorem yw_c58F {post : Int32 → SY → Prop} {J18 J27 : Int32 → Int32 → Prop} {sy l wt qu cs : Nat → Int32} {n : Nat} {x1 x2 x3 : Int32} {k : Nat} (H : J27 x2 (nI (k + 1))) : wY_common_58 post J18 J27 x1 x2 x3 (nI k) 0 (nI n) l sy wt qu cs :=
  br_t rfl (nm_r (nI_1 k) H)
theorem yw_c58T {post : Int32 → SY → Prop} {J18 J27 : Int32 → Int32 → Prop} {sy l wt qu cs : Nat → Int32} {n : Nat} (hl : ed_ok l) {x1 : Int32} {r v k : Nat} (hv : v < 10) (hk : k < 10) (hr : r ≤ 6) (H : ∀ s, s ≤ 6 → (∀ t, t ≤ s ↔ ed_S l sy v k t) → J27 (nI (min r s)) (nI (k + 1))) : wY_common_58 post J18 J27 x1 (nI r) (nI v) (nI k) 1 (nI n) l sy wt qu cs := by
  unfold wY_common_58
  refine br_f (by decide) (yw_shared hl hv hk fun s hs => ?_)
  have hs6 : s ≤ 6 := by
    have a := ((hs s).mp (Nat.le_refl s)).1
    have := ed_ok2 hl v
    omega
  exact yw_min rfl rfl (by omega) (by omega) (nm_r (nI_1 k) (H s hs6 hs))
theorem yw_c27 {post : Int32 → SY → Prop} {J18 : Int32 → Int32 → Prop} {sy l wt qu cs : Nat → Int32} {n : Nat} (hl : ed_ok l) (b : Nat → Bool) {n0 v : Nat} (hv : v < 10) (HJ : ∀ r, r ≤ 6 → ed_Y b l sy n0 (v + 1) 0 r → J18 (nI r) (nI (v + 1))) :
    ∀ d k r, k + d = 10 → r ≤ 6 → ed_Y b l sy n0 v k r → wY_common_27 post J18 (ed_bx b 10) (nI v) (nI n) l sy wt qu cs (d + 1) (nI r) (nI k) := by
  intro d
  induction d with
  | zero =>
    intro k r hk hr h
    have e : k = 10 := by omega
    subst e
    exact br_t ed_10 (nm_r (nI_1 v) (HJ r hr (ed_Y3 h)))
  | succ d ih =>
    intro k r hk hr h
    have hk10 : k < 10 := by omega
    refine br_f (ed_w10 hk10) ?_
    by_cases z : b v = true
    · refine br_t (ed_bitT b hv z) ?_
      by_cases y : b k = true
      · exact br_t (ed_bitT b hk10 y) (yw_c58T hl hv hk10 hr fun s hs6 hs => ih (k + 1) (min r s) (by omega) (by omega) (ed_Y2 hk10 z y hs h))
      · exact br_f (ed_bitF b hk10 (ed_ff y)) (yw_c58F (ih (k + 1) r (by omega) hr (ed_Y1 (fun q => y q.2) h)))
    · exact br_f (ed_bitF b hv (ed_ff z)) (yw_c58F (ih (k + 1) r (by omega) hr (ed_Y1 (fun q => z q.1) h)))
theorem yw_c18 {post : Int32 → SY → Prop} {sy l wt qu cs : Nat → Int32} {n : Nat} (hl : ed_ok l) (b : Nat → Bool) {n0 : Nat} (H : ∀ r, ed_Y b l sy n0 10 0 r → post (nI r) (nI n, l, sy, wt, qu, cs)) :
    ∀ d v r, v + d = 10 → r ≤ 6 → ed_Y b l sy n0 v 0 r → wY_common_18 post (ed_bx b 10) (nI n) l sy wt qu cs (d + 1) (nI r) (nI v) := by
  intro d
  induction d with
  | zero =>
    intro v r hv hr h
    have e : v = 10 := by omega
    subst e
    exact br_t ed_10 (H r h)
  | succ d ih =>
    intro v r hv hr h
    exact br_f (ed_w10 (by omega)) ⟨11, yw_c27 hl b (by omega) (fun r' hr' h' => ih (v + 1) r' (by omega) hr' h') 10 0 r rfl hr h⟩
theorem yw_common {post : Int32 → SY → Prop} {sy l wt qu cs : Nat → Int32} {n : Nat} (hl : ed_ok l) (hn : n ≤ 6) (H : ∀ cs' r, ed_cm (ed_fd l sy qu n) l sy r → post (nI r) (nI n, l, sy, wt, qu, cs')) : wpY_common post (nI n, l, sy, wt, qu, cs) := by
  unfold wpY_common
  refine yw_found hl hn fun c1 => br_c (fun h => ⟨11, ?_⟩) (fun h => ⟨11, ?_⟩)
  · have z := (ed_bx0 _ 10 (by omega)).mp h
    exact yw_c18 hl (ed_fd l sy qu n) (fun r hr => H c1 r (ed_Y4 z hr)) 10 0 0 rfl (by omega) ed_Y0
  · have z := fun q => h ((ed_bx0 _ 10 (by omega)).mpr q)
    exact yw_c18 hl (ed_fd l sy qu n) (fun r hr => H c1 r (ed_Y5 hl z hr)) 10 0 6 rfl (by omega) ed_Y0
end
section
/-! the relation, and begin in lockstep -/
/-- words, weights and query are the same functions on both sides, the query has nI n symbols, every length is at most 6; the tables of costs are free -/
def i_Rel (_ : Nat) (u : SX) (v : SY) : Prop := ∃ (n : Nat) (sy l wt qu cx cy : Nat → Int32), n ≤ 6 ∧ ed_ok l ∧ u = (nI n, sy, l, wt, qu, cx) ∧ v = (nI n, l, sy, wt, qu, cy)
theorem ed_R {k n : Nat} {sy l wt qu cx cy : Nat → Int32} (hn : n ≤ 6) (hl : ed_ok l) : i_Rel k (nI n, sy, l, wt, qu, cx) (nI n, l, sy, wt, qu, cy) := ⟨n, sy, l, wt, qu, cx, cy, hn, hl, rfl, rfl⟩
theorem i_up {k : Nat} {u : SX} {v : SY} (h : i_Rel k u v) : i_Rel (k + 3) u v := h
theorem i_vc0 : wpX_init (fun u => wpY_init (fun v => i_Rel 0 u v)) := ed_R (k := 0) (n := 0) (by omega) (fun _ => ⟨0, by omega, rfl⟩)
theorem bg_loop {n : Nat} {sy l wt qu : Nat → Int32} (hl : ed_ok l) (x1 x2 : Int32) : ∀ d k, k + d = 10 → ∃ (r : Int32) (sy' l' wt' : Nat → Int32), ed_ok l' ∧
    (∀ (post : Int32 → SX → Prop) (cs : Nat → Int32), post r (nI n, sy', l', wt', qu, cs) → wX_begin_18 post x1 x2 (nI n) sy l wt qu cs (d + 1) (nI k)) ∧
    (∀ (post : Int32 → SY → Prop) (cs : Nat → Int32), post r (nI n, l', sy', wt', qu, cs) → wY_begin_23 post x1 x2 (nI n) l sy wt qu cs (d + 1) (nI k)) := by
  intro d
  induction d with
  | zero =>
    intro k hk
    have e : k = 10 := by omega
    subst e
    exact ⟨-2, sy, l, wt, hl, fun _ _ hp => br_t ed_10 hp, fun _ _ hp => br_t ed_10 hp⟩
  | succ d ih =>
    intro k hk
    have hk10 : k < 10 := by omega
    have hm := ed_ok2 hl k
    have v : vp_in (nI k) 10 := vp_in_nI hk10 (by omega)
    by_cases z : ed_tl l k = 0
    · have hz : l (nI k).toNatClampNeg = 0 := by rw [ed_la hl hk10, z]; rfl
      have vx : vp_in (nI k * (6 : Int32)) 60 := by rw [ed_iz0]; exact vp_in_nI (by omega) (by omega)
      have vy : vp_in ((6 : Int32) * nI k) 60 := by rw [ed_iy0]; exact vp_in_nI (by omega) (by omega)
      have ek : (nI k).toNatClampNeg = k := nI_clamp (by omega)
      have e1 : upd sy (nI k * (6 : Int32)).toNatClampNeg x1 = upd sy (6 * k) x1 := by rw [ed_iz0, nI_clamp (by omega)]
      have e2 : upd sy ((6 : Int32) * nI k).toNatClampNeg x1 = upd sy (6 * k) x1 := by rw [ed_iy0, nI_clamp (by omega)]
      have e3 : upd l (nI k).toNatClampNeg 1 = upd l k (nI 1) := by rw [ek]; rfl
      have e4 : upd wt (nI k).toNatClampNeg x2 = upd wt k x2 := by rw [ek]
      refine ⟨nI k, upd sy (6 * k) x1, upd l k (nI 1), upd wt k x2, ed_okU hl k 1 (by omega), fun _ _ hp => ?_, fun _ _ hp => ?_⟩
      · exact br_f (ed_w10 hk10) ⟨v, br_t hz ⟨vx, nm_r e1 ⟨v, nm_r e3 ⟨v, nm_r e4 hp⟩⟩⟩⟩
      · exact br_f (ed_w10 hk10) ⟨v, br_t hz ⟨v, nm_r e3 ⟨vy, nm_r e2 ⟨v, nm_r e4 hp⟩⟩⟩⟩
    · have hz : ¬ l (nI k).toNatClampNeg = 0 := by rw [ed_la hl hk10]; exact nI_ne0 (by omega) (by omega)
      obtain ⟨r, sy', l', wt', h1, h2, h3⟩ := ih (k + 1) (by omega)
      exact ⟨r, sy', l', wt', h1, fun post cs hp => br_f (ed_w10 hk10) ⟨v, br_f hz (nm_r (nI_1 k) (h2 post cs hp))⟩, fun post cs hp => br_f (ed_w10 hk10) ⟨v, br_f hz (nm_r (nI_1 k) (h3 post cs hp))⟩⟩
theorem i_vc_begin {k : Nat} {u : SX} {v : SY} (I : i_Rel k u v) (hk : k + 3 ≤ 1536) (v1 : Int32) (v2 : Int32) : wpX_begin (fun r u' => wpY_begin (fun r' v' => r' = r ∧ i_Rel (k + 3) u' v') v v1 v2) u v1 v2 := by
  obtain ⟨n, sy, l, wt, qu, cx, cy, hn, hl, rfl, rfl⟩ := I
  unfold wpX_begin
  rcases ed_cs3 v1 with h | ⟨h0, h4, h3, h3'⟩ | ⟨h0, h4, h3, h3'⟩
  · exact br_t h (br_t rfl (br_t h ⟨rfl, ed_R hn hl⟩))
  · exact br_f h0 (br_t h4 (br_t rfl (br_f h0 (br_t h3 ⟨rfl, ed_R hn hl⟩))))
  · refine br_f h0 (br_f h4 (br_f (by decide) ?_))
    rcases ed_cs9 v2 with g | ⟨g0, g9, g9'⟩ | ⟨g0, g9, g9'⟩
    · exact br_t g (br_t rfl (br_f h0 (br_f h3 (br_t g ⟨rfl, ed_R hn hl⟩))))
    · exact br_f g0 (br_t g9 (br_t rfl (br_f h0 (br_f h3 (br_f g0 (br_f g9' ⟨rfl, ed_R hn hl⟩))))))
    · obtain ⟨r, sy', l', wt', h1, hX, hY⟩ := bg_loop (n := n) (sy := sy) (wt := wt) (qu := qu) hl v1 v2 10 0 rfl
      exact br_f g0 (br_f g9 (br_f (by decide) ⟨11, hX _ cx (br_f h0 (br_f h3 (br_f g0 (br_t g9' ⟨11, hY _ cy ⟨rfl, ed_R hn h1⟩⟩))))⟩))
end
section
/-! the owed rows -/
theorem i_vc_extend {k : Nat} {u : SX} {v : SY} (I : i_Rel k u v) (hk : k + 3 ≤ 1536) (v1 : Int32) (v2 : Int32) : wpX_extend (fun r u' => wpY_extend (fun r' v' => r' = r ∧ i_Rel (k + 3) u' v') v v1 v2) u v1 v2 := by
  obtain ⟨n, sy, l, wt, qu, cx, cy, hn, hl, rfl, rfl⟩ := I
  unfold wpX_extend wpY_extend
  rcases ed_cw v1 with h | ⟨w, hw, rfl⟩
  · exact xw_isWordN h (br_t rfl (yw_isN h (br_t rfl ⟨rfl, ed_R hn hl⟩)))
  · have hm := ed_ok2 hl w
    have v : vp_in (nI w) 10 := vp_in_nI hw (by omega)
    refine xw_isWord hl hw (ed_gX (fun z => ?_) (fun z => yw_is hl hw (ed_gX (fun y => absurd z (ed_tf y)) (fun _ => ⟨rfl, ed_R hn hl⟩))))
    rcases ed_cs3 v2 with h | ⟨h0, h4, h3, h3'⟩ | ⟨h0, h4, h3, h3'⟩
    · exact br_t h (br_t rfl (yw_is hl hw (ed_gX (fun _ => br_t h ⟨rfl, ed_R hn hl⟩) (fun y => absurd y (ed_tf z)))))
    · exact br_f h0 (br_t h4 (br_t rfl (yw_is hl hw (ed_gX (fun _ => br_f h0 (br_t h3 ⟨rfl, ed_R hn hl⟩)) (fun y => absurd y (ed_tf z))))))
    · refine br_f h0 (br_f h4 (br_f (by decide) ⟨v, pk_lt (ed_tl l w) 6 (fun h => ?_) (fun h => ?_) (ed_la hl hw) rfl⟩))
      · have vx : vp_in (nI w * (6 : Int32) + l (nI w).toNatClampNeg) 60 := by rw [ed_la hl hw]; exact ed_z1i hw (by omega)
        have vy : vp_in ((6 : Int32) * nI w + l (nI w).toNatClampNeg) 60 := by rw [ed_la hl hw, ed_iy1]; exact vp_in_nI (by omega) (by omega)
        have e1 : upd sy (nI w * (6 : Int32) + l (nI w).toNatClampNeg).toNatClampNeg v2 = upd sy (6 * w + ed_tl l w) v2 := by rw [ed_la hl hw, ed_z1 hw (by omega)]
        have e2 : upd sy ((6 : Int32) * nI w + l (nI w).toNatClampNeg).toNatClampNeg v2 = upd sy (6 * w + ed_tl l w) v2 := by rw [ed_la hl hw, ed_iy1, nI_clamp (by omega)]
        have e3 : upd l (nI w).toNatClampNeg (l (nI w).toNatClampNeg + 1) = upd l w (nI (ed_tl l w + 1)) := by rw [ed_la hl hw, nI_clamp (by omega), nI_1]
        refine ⟨v, vx, nm_r e1 ⟨v, v, nm_r e3 (yw_is hl hw (ed_gX (fun _ => ?_) (fun y => absurd y (ed_tf z))))⟩⟩
        refine br_f h0 (br_f h3 ⟨v, br_t (by rw [ed_la hl hw]; exact nI_lt (b := 6) h (by decide)) ⟨v, vy, nm_r e2 ⟨v, v, nm_r e3 ⟨rfl, ed_R hn (ed_okU hl w _ (by omega))⟩⟩⟩⟩)
      · exact yw_is hl hw (ed_gX (fun _ => br_f h0 (br_f h3 ⟨v, br_f (by rw [ed_la hl hw]; exact nI_nlt (b := 6) h (by omega)) ⟨rfl, ed_R hn hl⟩⟩)) (fun y => absurd y (ed_tf z)))
theorem i_vc_remove {k : Nat} {u : SX} {v : SY} (I : i_Rel k u v) (hk : k + 3 ≤ 1536) (v1 : Int32) : wpX_remove (fun r u' => wpY_remove (fun r' v' => r' = r ∧ i_Rel (k + 3) u' v') v v1) u v1 := by
  obtain ⟨n, sy, l, wt, qu, cx, cy, hn, hl, rfl, rfl⟩ := I
  unfold wpX_remove wpY_remove
  rcases ed_cw v1 with h | ⟨w, hw, rfl⟩
  · exact xw_isWordN h (br_t rfl (yw_isN h (br_t rfl ⟨rfl, ed_R hn hl⟩)))
  · have v : vp_in (nI w) 10 := vp_in_nI hw (by omega)
    have e : upd l (nI w).toNatClampNeg 0 = upd l w (nI 0) := by rw [nI_clamp (by omega)]; rfl
    refine xw_isWord hl hw (ed_gX (fun z => ?_) (fun z => yw_is hl hw (ed_gX (fun y => absurd z (ed_tf y)) (fun _ => ⟨rfl, ed_R hn hl⟩))))
    exact ⟨v, nm_r e (yw_is hl hw (ed_gX (fun _ => ⟨v, nm_r e ⟨rfl, ed_R hn (ed_okU hl w 0 (by omega))⟩⟩) (fun y => absurd y (ed_tf z))))⟩
theorem i_vc_weigh {k : Nat} {u : SX} {v : SY} (I : i_Rel k u v) (hk : k + 3 ≤ 1536) (v1 : Int32) (v2 : Int32) : wpX_weigh (fun r u' => wpY_weigh (fun r' v' => r' = r ∧ i_Rel (k + 3) u' v') v v1 v2) u v1 v2 := by
  obtain ⟨n, sy, l, wt, qu, cx, cy, hn, hl, rfl, rfl⟩ := I
  unfold wpX_weigh wpY_weigh
  rcases ed_cw v1 with h | ⟨w, hw, rfl⟩
  · exact xw_isWordN h (br_t rfl (yw_isN h (br_t rfl ⟨rfl, ed_R hn hl⟩)))
  · have v : vp_in (nI w) 10 := vp_in_nI hw (by omega)
    have e : upd wt (nI w).toNatClampNeg v2 = upd wt w v2 := by rw [nI_clamp (by omega)]
    refine xw_isWord hl hw (ed_gX (fun z => ?_) (fun z => yw_is hl hw (ed_gX (fun y => absurd z (ed_tf y)) (fun _ => ⟨rfl, ed_R hn hl⟩))))
    rcases ed_cs9 v2 with g | ⟨g0, g9, g9'⟩ | ⟨g0, g9, g9'⟩
    · exact br_t g (br_t rfl (yw_is hl hw (ed_gX (fun _ => br_t g ⟨rfl, ed_R hn hl⟩) (fun y => absurd y (ed_tf z)))))
    · exact br_f g0 (br_t g9 (br_t rfl (yw_is hl hw (ed_gX (fun _ => br_f g0 (br_f g9' ⟨rfl, ed_R hn hl⟩)) (fun y => absurd y (ed_tf z))))))
    · exact br_f g0 (br_f g9 (br_f (by decide) ⟨v, nm_r e (yw_is hl hw (ed_gX (fun _ => br_f g0 (br_t g9' ⟨v, nm_r e ⟨rfl, ed_R hn hl⟩⟩)) (fun y => absurd y (ed_tf z))))⟩))
theorem i_vc_words {k : Nat} {u : SX} {v : SY} (I : i_Rel k u v) (hk : k + 3 ≤ 1536) : wpX_words (fun r => wpY_words (fun r' => r' = r ∧ i_Rel (k + 3) u v) v) u := by
  obtain ⟨n, sy, l, wt, qu, cx, cy, hn, hl, rfl, rfl⟩ := I
  exact xw_words hl (yw_words hl ⟨rfl, ed_R hn hl⟩)
theorem i_vc_type {k : Nat} {u : SX} {v : SY} (I : i_Rel k u v) (hk : k + 3 ≤ 1536) (v1 : Int32) : wpX_type (fun r u' => wpY_type (fun r' v' => r' = r ∧ i_Rel (k + 3) u' v') v v1) u v1 := by
  obtain ⟨n, sy, l, wt, qu, cx, cy, hn, hl, rfl, rfl⟩ := I
  unfold wpX_type
  rcases ed_cs3 v1 with h | ⟨h0, h4, h3, h3'⟩ | ⟨h0, h4, h3, h3'⟩
  · exact br_t h (br_t rfl (br_t h ⟨rfl, ed_R hn hl⟩))
  · exact br_f h0 (br_t h4 (br_t rfl (br_f h0 (br_f h3' ⟨rfl, ed_R hn hl⟩))))
  · refine br_f h0 (br_f h4 (br_f (by decide) ?_))
    by_cases h6 : n < 6
    · refine br_t (nI_lt (b := 6) h6 (by decide)) ⟨vp_in_nI h6 (by omega), nm_r (e' := upd qu n v1) (by rw [nI_clamp (by omega)]) (nm_r (nI_1 n) ?_)⟩
      exact xw_countFound hl (n := n + 1) h6 rfl fun c1 => yw_type hl h6 h0 h3' fun c2 => ⟨rfl, ed_R h6 hl⟩
    · have e : n = 6 := by omega
      subst e
      exact br_f (by decide) (br_f h0 (br_t h3' (br_f (by decide) ⟨rfl, ed_R hn hl⟩)))
theorem i_vc_rub {k : Nat} {u : SX} {v : SY} (I : i_Rel k u v) (hk : k + 3 ≤ 1536) : wpX_rub (fun r u' => wpY_rub (fun r' v' => r' = r ∧ i_Rel (k + 3) u' v') v) u := by
  obtain ⟨n, sy, l, wt, qu, cx, cy, hn, hl, rfl, rfl⟩ := I
  unfold wpX_rub
  rcases n with _ | n
  · exact br_t rfl (br_t rfl ⟨rfl, ed_R hn hl⟩)
  · refine br_f (nI_ne0 (by omega) (by omega)) (nm_r (nI_pred n) ⟨vp_in_nI (by omega) (by omega), ?_⟩)
    rw [nI_clamp (by omega)]
    exact yw_rub (by omega) ⟨rfl, ed_R (by omega) hl⟩
theorem i_vc_typed {k : Nat} {u : SX} {v : SY} (I : i_Rel k u v) (hk : k + 3 ≤ 1536) : wpX_typed (fun r => wpY_typed (fun r' => r' = r ∧ i_Rel (k + 3) u v) v) u := by
  obtain ⟨n, sy, l, wt, qu, cx, cy, hn, hl, rfl, rfl⟩ := I
  exact ⟨rfl, ed_R hn hl⟩
theorem i_vc_typos {k : Nat} {u : SX} {v : SY} (I : i_Rel k u v) (hk : k + 3 ≤ 1536) (v1 : Int32) : wpX_typos (fun r u' => wpY_typos (fun r' v' => r' = r ∧ i_Rel (k + 3) u' v') v v1) u v1 := by
  obtain ⟨n, sy, l, wt, qu, cx, cy, hn, hl, rfl, rfl⟩ := I
  unfold wpX_typos wpY_typos
  rcases ed_cw v1 with h | ⟨w, hw, rfl⟩
  · exact xw_isWordN h (br_t rfl (yw_isN h (br_t rfl ⟨rfl, ed_R hn hl⟩)))
  · have b := ed_tyle l sy qu n w
    refine xw_isWord hl hw (ed_gX (fun z => ?_) (fun z => yw_is hl hw (ed_gX (fun y => absurd z (ed_tf y)) (fun _ => ⟨rfl, ed_R hn hl⟩))))
    refine xw_leastCost hl hn hw fun c1 => pk_le 3 (ed_ty l sy qu n w) (fun h => ?_) (fun h => ?_)
    · exact yw_is hl hw (ed_gX (fun _ => yw_edits hl hn hw fun c2 => yw_min (b := 3) rfl rfl (by omega) (by omega) ⟨congrArg nI (a₂ := 3) (by omega), ed_R hn hl⟩) (fun y => absurd y (ed_tf z)))
    · exact yw_is hl hw (ed_gX (fun _ => yw_edits hl hn hw fun c2 => yw_min (b := 3) rfl rfl (by omega) (by omega) ⟨congrArg nI (by omega), ed_R hn hl⟩) (fun y => absurd y (ed_tf z)))
theorem i_vc_found {k : Nat} {u : SX} {v : SY} (I : i_Rel k u v) (hk : k + 3 ≤ 1536) : wpX_found (fun r u' => wpY_found (fun r' v' => r' = r ∧ i_Rel (k + 3) u' v') v) u := by
  obtain ⟨n, sy, l, wt, qu, cx, cy, hn, hl, rfl, rfl⟩ := I
  exact xw_found hl hn fun c1 => yw_found hl hn fun c2 => ⟨rfl, ed_R hn hl⟩
theorem i_vc_at {k : Nat} {u : SX} {v : SY} (I : i_Rel k u v) (hk : k + 3 ≤ 1536) (v1 : Int32) : wpX_at (fun r u' => wpY_at (fun r' v' => r' = r ∧ i_Rel (k + 3) u' v') v v1) u v1 := by
  obtain ⟨n, sy, l, wt, qu, cx, cy, hn, hl, rfl, rfl⟩ := I
  exact xw_at hl hn fun c1 => yw_at hl hn fun c2 => ⟨rfl, ed_R hn hl⟩
theorem i_vc_place {k : Nat} {u : SX} {v : SY} (I : i_Rel k u v) (hk : k + 3 ≤ 1536) (v1 : Int32) : wpX_place (fun r u' => wpY_place (fun r' v' => r' = r ∧ i_Rel (k + 3) u' v') v v1) u v1 := by
  obtain ⟨n, sy, l, wt, qu, cx, cy, hn, hl, rfl, rfl⟩ := I
  rcases ed_cw v1 with h | ⟨w, hw, rfl⟩
  · unfold wpX_place wpY_place
    exact xw_isFoundN h (br_t rfl (yw_isFoundN h (br_t rfl ⟨rfl, ed_R hn hl⟩)))
  · exact xw_place hl hn hw fun c1 => yw_place hl hn hw fun c2 => ⟨rfl, ed_R hn hl⟩
theorem i_vc_hints {k : Nat} {u : SX} {v : SY} (I : i_Rel k u v) (hk : k + 3 ≤ 1536) : wpX_hints (fun r u' => wpY_hints (fun r' v' => r' = r ∧ i_Rel (k + 3) u' v') v) u := by
  obtain ⟨n, sy, l, wt, qu, cx, cy, hn, hl, rfl, rfl⟩ := I
  by_cases h : n < 6
  · exact xw_hints hl h fun c1 => yw_hints hl h fun c2 => ⟨rfl, ed_R hn hl⟩
  · exact xw_hintsF (by omega) (yw_hintsF (by omega) ⟨rfl, ed_R hn hl⟩)
theorem i_vc_common {k : Nat} {u : SX} {v : SY} (I : i_Rel k u v) (hk : k + 3 ≤ 1536) : wpX_common (fun r u' => wpY_common (fun r' v' => r' = r ∧ i_Rel (k + 3) u' v') v) u := by
  obtain ⟨n, sy, l, wt, qu, cx, cy, hn, hl, rfl, rfl⟩ := I
  exact xw_common hl hn fun c1 r hr => yw_common hl hn fun c2 r' hr' => ⟨congrArg nI (ed_cmu hr hr'), ed_R hn hl⟩
end
