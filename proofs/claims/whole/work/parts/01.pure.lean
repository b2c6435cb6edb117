-- rows pasted from the rows to paste
theorem pk_us {f : Nat → Int32} {k : Nat} {x : Int32} : upd f k x k = x := if_pos rfl
theorem pk_un {f : Nat → Int32} {k j : Nat} {x : Int32} (h : j ≠ k) : upd f k x j = f j := if_neg h
theorem pk_sub {a b : Nat} (h : b ≤ a) : nI a - nI b = nI (a - b) := by
  obtain ⟨c, rfl⟩ : ∃ c, a = c + b := ⟨a - b, by omega⟩
  rw [← nI_add, Int32.add_sub_cancel, Nat.add_sub_cancel]
theorem pk_m1 (n : Nat) : nI (n + 1) + (-1) = nI n := by
  rw [← nI_1, Int32.add_assoc, show (1 : Int32) + (-1) = 0 from rfl, Int32.add_zero]
theorem pk_mul (a b : Nat) : nI a * nI b = nI (a * b) := (Int32.ofNat_mul a b).symm
theorem pk_ix (x : Int32) {n : Nat} (hn : n < 2 ^ 31) : x < 0 ∨ nI n ≤ x ∨ ∃ j : Nat, j < n ∧ x = nI j := by
  by_cases h : x < 0
  · exact Or.inl h
  · obtain ⟨j, hj, rfl⟩ := nI_of h
    by_cases h2 : j < n
    · exact Or.inr (Or.inr ⟨j, h2, rfl⟩)
    · exact Or.inr (Or.inl (nI_le (by omega) hj))
theorem pk_le {x y : Int32} {A B : Prop} (a b : Nat) (f : a ≤ b → A) (g : b < a → B) (hx : x = nI a := by rfl) (hy : y = nI b := by rfl) (ha : a < 2 ^ 31 := by omega) (hb : b < 2 ^ 31 := by omega) : (x ≤ y → A) ∧ (¬ x ≤ y → B) := by
  subst hx hy
  rw [nI_leI ha hb]
  exact ⟨f, fun z => g (by omega)⟩
theorem pk_lt {x y : Int32} {A B : Prop} (a b : Nat) (f : a < b → A) (g : b ≤ a → B) (hx : x = nI a := by rfl) (hy : y = nI b := by rfl) (ha : a < 2 ^ 31 := by omega) (hb : b < 2 ^ 31 := by omega) : (x < y → A) ∧ (¬ x < y → B) := by
  subst hx hy
  rw [nI_ltI ha hb]
  exact ⟨f, fun z => g (by omega)⟩
theorem pk_eq {x y : Int32} {A B : Prop} (a b : Nat) (f : a = b → A) (g : a ≠ b → B) (hx : x = nI a := by rfl) (hy : y = nI b := by rfl) (ha : a < 2 ^ 31 := by omega) (hb : b < 2 ^ 31 := by omega) : (x = y → A) ∧ (¬ x = y → B) := by
  subst hx hy
  rw [nI_eq ha hb]
  exact ⟨f, g⟩
theorem pk_in {x : Int32} (n N : Nat) (h : n < N) (hx : x = nI n := by rfl) (hN : N < 2 ^ 31 := by omega) : vp_in x N := by
  subst hx
  exact vp_in_nI h hN
theorem pk_cl {x : Int32} (n : Nat) (hx : x = nI n := by rfl) (h : n < 2 ^ 31 := by omega) : x.toNatClampNeg = n := by
  subst hx
  exact nI_clamp h
theorem pk_loop {σ : Type} (W : Nat → Nat → σ → Prop) (I : Nat → σ → Prop) (e i0 : Nat) (s : σ) (hi : i0 ≤ e) (h0 : I i0 s) (hx : ∀ n s, I e s → W (n + 1) e s)
    (hs : ∀ n i s, i < e → I i s → (∀ s', I (i + 1) s' → W n (i + 1) s') → W (n + 1) i s) : ∃ n, W n i0 s :=
  ⟨e + 1, loop_i W I e hx hs (e + 1) i0 s hi (by omega) h0⟩
def bt (x : Int32) (i : Nat) : Bool := x.toBitVec.getLsbD i
theorem b_ext {x y : Int32} (h : ∀ i, i < 32 → bt x i = bt y i) : x = y := Int32.toBitVec_inj.mp (BitVec.eq_of_getLsbD_eq (fun i hi => h i hi))
theorem b_or (x y : Int32) (i : Nat) : bt (x ||| y) i = (bt x i || bt y i) := by unfold bt; rw [Int32.toBitVec_or, BitVec.getLsbD_or]
theorem b_and (x y : Int32) (i : Nat) : bt (x &&& y) i = (bt x i && bt y i) := by unfold bt; rw [Int32.toBitVec_and, BitVec.getLsbD_and]
theorem b_0 (i : Nat) : bt 0 i = false := BitVec.getLsbD_zero
theorem s_l : ∀ n, n < 32 → ((nI n &&& 31).toBitVec.smod 32).toNat = n := by decide +kernel
theorem b_sshr (n : Nat) (hn : n < 32) (x : Int32) {i : Nat} (hi : i < 32) : bt (x >>> (nI n &&& 31)) i = if n + i < 32 then bt x (n + i) else bt x 31 := by
  unfold bt
  rw [Int32.toBitVec_shiftRight]
  show (x.toBitVec.sshiftRight ((nI n &&& 31).toBitVec.smod 32).toNat).getLsbD i = _
  rw [s_l n hn, BitVec.getLsbD_sshiftRight, BitVec.msb_eq_getLsbD_last]
  simp [hi]
/-! the pure picture: costs, typos, found, bits, counts, order, common beginning -/
def ed_ch (i : Nat) : Nat := if i = 0 then 2 else 1
def ed_row (r : Nat → Nat) (c : Nat) (x : Int32) (s : Nat → Int32) : Nat → Nat
  | 0 => r 0 + c
  | j + 1 => min (ed_row r c x s j + 1) (min (r j + (if x = s j then 0 else c)) (r (j + 1) + c))
def ed_c (q s : Nat → Int32) : Nat → Nat → Nat
  | 0 => fun j => 2 * j
  | i + 1 => ed_row (ed_c q s i) (ed_ch i) (q i) s
def ed_m (r : Nat → Nat) : Nat → Nat
  | 0 => r 0
  | m + 1 => min (ed_m r m) (r (m + 1))
theorem ed_ch2 (i : Nat) : ed_ch i ≤ 2 := by unfold ed_ch; split <;> omega
theorem ed_c0 (q s : Nat → Int32) (j : Nat) : ed_c q s 0 j = 2 * j := rfl
theorem ed_cz (q s : Nat → Int32) (i : Nat) : ed_c q s (i + 1) 0 = ed_c q s i 0 + ed_ch i := rfl
theorem ed_cs (q s : Nat → Int32) (i j : Nat) : ed_c q s (i + 1) (j + 1) = min (ed_c q s (i + 1) j + 1) (min (ed_c q s i j + (if q i = s j then 0 else ed_ch i)) (ed_c q s i (j + 1) + ed_ch i)) := rfl
theorem ed_rowle (r : Nat → Nat) (c : Nat) (x : Int32) (s : Nat → Int32) (j : Nat) : ed_row r c x s j ≤ r j + c := by
  cases j with
  | zero => exact Nat.le_refl _
  | succ j =>
    show min _ (min _ (r (j + 1) + c)) ≤ _
    omega
theorem ed_cle (q s : Nat → Int32) (i j : Nat) : ed_c q s i j ≤ 2 * i + 2 * j := by
  induction i with
  | zero => rw [ed_c0]; omega
  | succ i ih =>
    have h : ed_c q s (i + 1) j ≤ ed_c q s i j + ed_ch i := ed_rowle (ed_c q s i) (ed_ch i) (q i) s j
    have h2 := ed_ch2 i
    omega
theorem ed_ms (r : Nat → Nat) (m : Nat) : ed_m r (m + 1) = min (ed_m r m) (r (m + 1)) := rfl
theorem ed_mle (r : Nat → Nat) (m : Nat) : ed_m r m ≤ r 0 := by
  induction m with
  | zero => exact Nat.le_refl _
  | succ m ih => rw [ed_ms]; omega
def ed_tl (l : Nat → Int32) (w : Nat) : Nat := (l w).toNatClampNeg
def ed_ok (l : Nat → Int32) : Prop := ∀ w, ∃ m, m ≤ 6 ∧ l w = nI m
theorem ed_ok1 {l : Nat → Int32} (h : ed_ok l) (w : Nat) : l w = nI (ed_tl l w) := by
  obtain ⟨m, hm, e⟩ := h w
  unfold ed_tl
  rw [e, nI_clamp (by omega)]
theorem ed_ok2 {l : Nat → Int32} (h : ed_ok l) (w : Nat) : ed_tl l w ≤ 6 := by
  obtain ⟨m, hm, e⟩ := h w
  unfold ed_tl
  rw [e, nI_clamp (by omega)]
  exact hm
theorem ed_okU {l : Nat → Int32} (h : ed_ok l) (w m : Nat) (hm : m ≤ 6) : ed_ok (upd l w (nI m)) := by
  intro j
  by_cases e : j = w
  · rw [e, pk_us]; exact ⟨m, hm, rfl⟩
  · rw [pk_un e]; exact h j
def ed_ty (l sy qu : Nat → Int32) (n w : Nat) : Nat := ed_m (ed_c qu (fun j => sy (6 * w + j)) n) (ed_tl l w)
theorem ed_tyle (l sy qu : Nat → Int32) (n w : Nat) : ed_ty l sy qu n w ≤ 2 * n := by
  have h1 := ed_mle (ed_c qu (fun j => sy (6 * w + j)) n) (ed_tl l w)
  have h2 := ed_cle qu (fun j => sy (6 * w + j)) n 0
  unfold ed_ty
  omega
def ed_fg (n : Nat) : Nat := if n < 3 then 0 else if n < 5 then 1 else 2
theorem ed_fgle (n : Nat) : ed_fg n ≤ 2 := by
  unfold ed_fg
  split
  · omega
  · split <;> omega
def ed_wd (l : Nat → Int32) (w : Nat) : Bool := decide (0 < ed_tl l w)
def ed_fd (l sy qu : Nat → Int32) (n w : Nat) : Bool := decide (0 < ed_tl l w ∧ ed_ty l sy qu n w ≤ ed_fg n)
def ed_bI : Bool → Int32
  | true => 1
  | false => 0
theorem ed_nb (b : Bool) : narrow .boolean (.int (ed_bI b)) = .int (ed_bI b) := by cases b <;> rfl
theorem ed_b0 (b : Bool) : ed_bI b = 0 ↔ b = false := by cases b <;> decide
theorem ed_b1 (b : Bool) : ed_bI b = 1 ↔ b = true := by cases b <;> decide
theorem ed_ff {b : Bool} (h : ¬ b = true) : b = false := by cases b <;> first | rfl | exact absurd rfl h
theorem ed_tt {b : Bool} (h : ¬ b = false) : b = true := by cases b <;> first | rfl | exact absurd rfl h
theorem ed_tf {b : Bool} (h : b = true) : ¬ b = false := by cases b <;> first | decide | exact nomatch h
def ed_cn (b : Nat → Bool) : Nat → Nat
  | 0 => 0
  | k + 1 => if b k = true then ed_cn b k + 1 else ed_cn b k
theorem ed_cnt {b : Nat → Bool} {k : Nat} (h : b k = true) : ed_cn b (k + 1) = ed_cn b k + 1 := if_pos h
theorem ed_cnf {b : Nat → Bool} {k : Nat} (h : b k = false) : ed_cn b (k + 1) = ed_cn b k := if_neg (by rw [h]; decide)
theorem ed_cnle (b : Nat → Bool) (k : Nat) : ed_cn b k ≤ k := by
  induction k with
  | zero => exact Nat.le_refl _
  | succ k ih =>
    by_cases h : b k = true
    · rw [ed_cnt h]; omega
    · rw [ed_cnf (ed_ff h)]; omega
theorem ed_cn0 (b : Nat → Bool) (k : Nat) : ed_cn b k = 0 ↔ ∀ v, v < k → b v = false := by
  induction k with
  | zero => exact ⟨fun _ v hv => absurd hv (Nat.not_lt_zero v), fun _ => rfl⟩
  | succ k ih =>
    by_cases h : b k = true
    · rw [ed_cnt h]
      exact ⟨fun z => absurd z (Nat.succ_ne_zero _), fun z => absurd (z k (Nat.lt_succ_self k)) (ed_tf h)⟩
    · rw [ed_cnf (ed_ff h), ih]
      refine ⟨fun z v hv => ?_, fun z v hv => z v (by omega)⟩
      by_cases e : v = k
      · rw [e]; exact ed_ff h
      · exact z v (by omega)
def ed_bx (b : Nat → Bool) : Nat → Int32
  | 0 => 0
  | k + 1 => if b k = true then ed_bx b k ||| ((1 : Int32) <<< (nI k &&& 31)) else ed_bx b k
theorem ed_bxt {b : Nat → Bool} {k : Nat} (h : b k = true) : ed_bx b (k + 1) = ed_bx b k ||| ((1 : Int32) <<< (nI k &&& 31)) := if_pos h
theorem ed_bxf {b : Nat → Bool} {k : Nat} (h : b k = false) : ed_bx b (k + 1) = ed_bx b k := if_neg (by rw [h]; decide)
theorem ed_b1k : ∀ k, k < 32 → ∀ i, i < 32 → bt ((1 : Int32) <<< (nI k &&& 31)) i = decide (i = k) := by decide +kernel
theorem ed_b1b : ∀ i, i < 32 → bt 1 i = decide (i = 0) := by decide +kernel
theorem ed_bxb (b : Nat → Bool) (k : Nat) (hk : k ≤ 32) (i : Nat) (hi : i < 32) : bt (ed_bx b k) i = (decide (i < k) && b i) := by
  induction k with
  | zero => rw [show ed_bx b 0 = 0 from rfl, b_0]; simp
  | succ k ih =>
    have ih' := ih (by omega)
    by_cases h : b k = true
    · rw [ed_bxt h, b_or, ih', ed_b1k k (by omega) i hi]
      by_cases e : i = k
      · subst e; simp [h]
      · have h1 : decide (i < k + 1) = decide (i < k) := decide_eq_decide.mpr (by omega)
        rw [h1, decide_eq_false e, Bool.or_false]
    · rw [ed_bxf (ed_ff h), ih']
      by_cases e : i = k
      · subst e; rw [ed_ff h, Bool.and_false, Bool.and_false]
      · have h1 : decide (i < k + 1) = decide (i < k) := decide_eq_decide.mpr (by omega)
        rw [h1]
theorem ed_bx0 (b : Nat → Bool) (k : Nat) (hk : k ≤ 32) : ed_bx b k = 0 ↔ ∀ v, v < k → b v = false := by
  constructor
  · intro h v hv
    have h2 := ed_bxb b k hk v (by omega)
    rw [h, b_0, decide_eq_true hv, Bool.true_and] at h2
    exact h2.symm
  · intro h
    refine b_ext fun i hi => ?_
    rw [ed_bxb b k hk i hi, b_0]
    by_cases e : i < k
    · rw [h i e, Bool.and_false]
    · rw [decide_eq_false e, Bool.false_and]
theorem ed_bxcn (b : Nat → Bool) : ed_bx b 10 = 0 ↔ ed_cn b 10 = 0 := by rw [ed_bx0 b 10 (by omega), ed_cn0]
theorem ed_sh (x : Int32) (w : Nat) (hw : w < 32) : (x >>> (nI w &&& 31)) &&& 1 = ed_bI (bt x w) := by
  refine b_ext fun i hi => ?_
  rw [b_and, ed_b1b i hi]
  by_cases e : i = 0
  · subst e
    rw [b_sshr w hw x hi, if_pos (by omega), Nat.add_zero, decide_eq_true rfl, Bool.and_true]
    cases bt x w
    · exact (b_0 0).symm
    · exact (ed_b1b 0 (by omega)).symm
  · rw [decide_eq_false e, Bool.and_false]
    cases bt x w
    · exact (b_0 i).symm
    · exact ((ed_b1b i hi).trans (decide_eq_false e)).symm
theorem ed_bit (b : Nat → Bool) (w : Nat) (hw : w < 10) : (ed_bx b 10 >>> (nI w &&& 31)) &&& 1 = ed_bI (b w) := by
  rw [ed_sh _ w (by omega), ed_bxb b 10 (by omega) w (by omega), decide_eq_true hw, Bool.true_and]
def ed_ex (l sy qu : Nat → Int32) (n w : Nat) : Bool := decide (ed_tl l w = n ∧ ∀ i, i < n → sy (6 * w + i) = qu i)
def ed_gb (l sy wt qu : Nat → Int32) (n v w : Nat) : Bool :=
  if ed_ty l sy qu n v = ed_ty l sy qu n w then
    if ed_ex l sy qu n v = ed_ex l sy qu n w then
      if ed_tl l v = ed_tl l w then
        if wt v = wt w then decide (v < w) else decide (wt w < wt v)
      else decide (ed_tl l v < ed_tl l w)
    else ed_ex l sy qu n v
  else decide (ed_ty l sy qu n v < ed_ty l sy qu n w)
def ed_be (l sy wt qu : Nat → Int32) (n w v : Nat) : Bool := decide (v ≠ w) && (ed_fd l sy qu n v && ed_gb l sy wt qu n v w)
def ed_cb (l sy wt qu : Nat → Int32) (n w : Nat) : Nat := ed_cn (ed_be l sy wt qu n w) 10
def ed_at (p : Nat → Bool) : Nat → Nat → Int32
  | 0, _ => -1
  | d + 1, w => if p w = true then nI w else ed_at p d (w + 1)
def ed_hq (qu : Nat → Int32) (n : Nat) : Nat → Nat → Int32
  | 0 => qu
  | s + 1 => upd (ed_hq qu n s) n (nI s)
def ed_hb (l sy qu : Nat → Int32) (n s : Nat) : Bool := decide (0 < ed_cn (ed_fd l sy (ed_hq qu n (s + 1)) (n + 1)) 10)
def ed_S (l sy : Nat → Int32) (v w t : Nat) : Prop := t ≤ ed_tl l v ∧ t ≤ ed_tl l w ∧ ∀ i, i < t → sy (6 * v + i) = sy (6 * w + i)
def ed_G (b : Nat → Bool) (l sy : Nat → Int32) (t : Nat) : Prop := ∀ v w, v < 10 → w < 10 → b v = true → b w = true → ed_S l sy v w t
def ed_cm (b : Nat → Bool) (l sy : Nat → Int32) (r : Nat) : Prop := ((∀ v, v < 10 → b v = false) → r = 0) ∧ (∀ v, v < 10 → b v = true → ∀ t, t ≤ r ↔ ed_G b l sy t)
theorem ed_cmu {b : Nat → Bool} {l sy : Nat → Int32} {r r' : Nat} (h : ed_cm b l sy r) (h' : ed_cm b l sy r') : r' = r := by
  by_cases z : ∀ v, v < 10 → b v = false
  · rw [h.1 z, h'.1 z]
  · have ⟨v, hv⟩ := Classical.not_forall.mp z
    have ⟨h1, h2⟩ := Classical.not_imp.mp hv
    have a := h.2 v h1 (ed_tt h2)
    have a' := h'.2 v h1 (ed_tt h2)
    have e1 := (a r').mpr ((a' r').mp (Nat.le_refl _))
    have e2 := (a' r).mpr ((a r).mp (Nat.le_refl _))
    omega
