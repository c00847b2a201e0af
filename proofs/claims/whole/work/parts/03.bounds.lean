/-! ranges: costs, coefficients, levels -/
theorem gv_bm {x : Int} (h1 : -2147483648 ≤ x) (h2 : x < 2147483648) : x.bmod (2 ^ 32) = x := Int.bmod_eq_of_le (by omega) (by omega)
theorem gv_tadd {x y : Int32} (h1 : -2147483648 ≤ x.toInt + y.toInt) (h2 : x.toInt + y.toInt < 2147483648) : (x + y).toInt = x.toInt + y.toInt := by
  rw [Int32.toInt_add]; exact gv_bm h1 h2
theorem gv_tsub {x y : Int32} (h1 : -2147483648 ≤ x.toInt - y.toInt) (h2 : x.toInt - y.toInt < 2147483648) : (x - y).toInt = x.toInt - y.toInt := by
  rw [Int32.toInt_sub]; exact gv_bm h1 h2
theorem gv_tneg {x : Int32} (h : -2147483648 < x.toInt) (h2 : x.toInt < 2147483648) : (-x).toInt = -x.toInt := by
  rw [Int32.toInt_neg]; exact gv_bm (by omega) (by omega)
theorem gv_sm_b {f : Nat → Int32} : ∀ n, n ≤ 16 → (∀ i, i < n → -255 ≤ (f i).toInt ∧ (f i).toInt ≤ 255) → -(255 * (n : Int)) ≤ (gv_sm f n).toInt ∧ (gv_sm f n).toInt ≤ 255 * (n : Int)
  | 0, _, _ => by show _ ≤ (0 : Int32).toInt ∧ (0 : Int32).toInt ≤ _; rw [gv_i0]; omega
  | n + 1, hn, h => by
    have a := gv_sm_b n (by omega) (fun i hi => h i (by omega))
    have b := h n (by omega)
    show _ ≤ (gv_sm f n + f n).toInt ∧ (gv_sm f n + f n).toInt ≤ _
    rw [gv_tadd (by omega) (by omega)]
    omega
theorem gv_sm_n {f : Nat → Int32} : ∀ n, n ≤ 16 → (∀ i, i < n → 0 ≤ (f i).toInt ∧ (f i).toInt ≤ 255) → 0 ≤ (gv_sm f n).toInt ∧ (gv_sm f n).toInt ≤ 255 * (n : Int)
  | 0, _, _ => by show _ ≤ (0 : Int32).toInt ∧ (0 : Int32).toInt ≤ _; rw [gv_i0]; omega
  | n + 1, hn, h => by
    have a := gv_sm_n n (by omega) (fun i hi => h i (by omega))
    have b := h n (by omega)
    show _ ≤ (gv_sm f n + f n).toInt ∧ (gv_sm f n + f n).toInt ≤ _
    rw [gv_tadd (by omega) (by omega)]
    omega
theorem gv_ab_t {x : Int32} (h : -2147483648 < x.toInt) (h2 : x.toInt < 2147483648) : (gv_ab x).toInt = if x.toInt < 0 then -x.toInt else x.toInt := by
  unfold gv_ab
  by_cases a : x < 0
  · rw [if_pos a, gv_tneg h h2]
    rw [gv_lt, gv_i0] at a
    rw [if_pos a]
  · rw [if_neg a]
    rw [gv_lt, gv_i0] at a
    rw [if_neg a]
theorem gv_d_b {x y : Int32} (hx : gv_px x) (hy : gv_px y) : -255 ≤ (x - y).toInt ∧ (x - y).toInt ≤ 255 := by
  unfold gv_px at hx hy
  rw [gv_tsub (by omega) (by omega)]
  omega
theorem gv_ct_b {inp P : Nat → Int32} (f b : Nat) (hi : gv_P inp) (hP : ∀ t, t < 16 → gv_px (P t)) : 0 ≤ (gv_ct inp f b P).toInt ∧ (gv_ct inp f b P).toInt ≤ 4080 := by
  have := gv_sm_n (f := fun t => gv_ab (inp (f * 64 + gv_id b t) - P t)) 16 (by omega) (fun t ht => by
    have a := gv_d_b (hi (f * 64 + gv_id b t)) (hP t ht)
    show 0 ≤ (gv_ab (inp (f * 64 + gv_id b t) - P t)).toInt ∧ (gv_ab (inp (f * 64 + gv_id b t) - P t)).toInt ≤ 255
    rw [gv_ab_t (by omega) (by omega)]
    split <;> omega)
  unfold gv_ct
  omega
theorem gv_hh {a b d : Int32} (ha : a = 1 ∨ a = -1) (hb : b = 1 ∨ b = -1) : a * d * b = d ∨ a * d * b = -d := by
  rcases ha with rfl | rfl <;> rcases hb with rfl | rfl
  · left; grind
  · right; grind
  · right; grind
  · left; grind
theorem gv_tr_b {F : Nat → Int32} (h : ∀ s, s < 16 → -255 ≤ (F s).toInt ∧ (F s).toInt ≤ 255) {t : Nat} (ht : t < 16) : -4080 ≤ (gv_tr F t).toInt ∧ (gv_tr F t).toInt ≤ 4080 := by
  have := gv_sm_b (f := fun s => gv_h (t / 4) (s / 4) * F s * gv_h (t % 4) (s % 4)) 16 (by omega) (fun s hs => by
    have a := h s hs
    show -255 ≤ (gv_h (t / 4) (s / 4) * F s * gv_h (t % 4) (s % 4)).toInt ∧ (gv_h (t / 4) (s / 4) * F s * gv_h (t % 4) (s % 4)).toInt ≤ 255
    rcases gv_hh (d := F s) (gv_h_1 (t / 4) (by omega) (s / 4) (by omega)) (gv_h_1 (t % 4) (by omega) (s % 4) (by omega)) with e | e
    · rw [e]; exact a
    · rw [e, gv_tneg (by omega) (by omega)]; omega)
  unfold gv_tr
  omega
theorem gv_qt_b {q : Nat} (hq : 0 < q) (hq2 : q ≤ 64) {y : Int32} (h1 : -4080 ≤ y.toInt) (h2 : y.toInt ≤ 4080) : -4080 ≤ (gv_qt q y).toInt ∧ (gv_qt q y).toInt ≤ 4080 := by
  have a := gv_ab_t (x := y) (by omega) (by omega)
  have a0 : 0 ≤ (gv_ab y).toInt ∧ (gv_ab y).toInt ≤ 4080 := by rw [a]; split <;> omega
  obtain ⟨e, e2, e3⟩ := gv_nI_of a0.1
  generalize (gv_ab y).toNatClampNeg = m at e e2 e3
  have hm : m ≤ 4080 := by omega
  have d : (gv_ab y + nI q / 2) / nI q = nI ((m + q / 2) / q) := by
    rw [e, show (2 : Int32) = nI 2 from rfl, pk_div (by omega) (by omega) (by omega), nI_add, pk_div (by omega) (by omega) (by omega)]
  have hd : (m + q / 2) / q ≤ 4080 := Nat.div_le_of_le_mul (by omega)
  unfold gv_qt
  rw [d]
  generalize (m + q / 2) / q = z at hd ⊢
  have hz := nI_toInt (n := z) (by omega)
  split
  · rw [gv_tneg (by omega) (by omega), hz]; omega
  · rw [hz]; omega
theorem gv_lv_b {inp P : Nat → Int32} {f b q : Nat} (hi : gv_P inp) (hP : ∀ t, t < 16 → gv_px (P t)) (hq : 0 < q) (hq2 : q ≤ 64) {t : Nat} (ht : t < 16) : -4080 ≤ (gv_lv inp f b q P t).toInt ∧ (gv_lv inp f b q P t).toInt ≤ 4080 := by
  have a := gv_tr_b (F := gv_rs inp f b P) (fun s hs => gv_d_b (hi _) (hP s hs)) ht
  exact gv_qt_b hq hq2 a.1 a.2
/-- a level as it is written: 13 bits -/
def gv_lw (x : Int32) : Nat := (x + 4096).toNatClampNeg
theorem gv_lw_e {x : Int32} (h1 : -4096 ≤ x.toInt) (h2 : x.toInt < 4096) : x + 4096 = nI (gv_lw x) ∧ gv_lw x < 8192 ∧ nI (gv_lw x) - 4096 = x := by
  have i4 : (4096 : Int32).toInt = 4096 := by decide
  have a : (x + 4096).toInt = x.toInt + 4096 := by rw [gv_tadd (by omega) (by omega), i4]
  obtain ⟨e, e2, e3⟩ := gv_nI_of (x := x + 4096) (by omega)
  refine ⟨e, ?_, ?_⟩
  · unfold gv_lw; omega
  · unfold gv_lw; rw [← e]; exact Int32.add_sub_cancel _ _
def gv_vw (x : Int32) : Nat := (x + 2).toNatClampNeg
theorem gv_vw_e {x : Int32} (h1 : -2 ≤ x.toInt) (h2 : x.toInt ≤ 2) : x + 2 = nI (gv_vw x) ∧ gv_vw x < 8 ∧ nI (gv_vw x) - 2 = x := by
  have i4 : (2 : Int32).toInt = 2 := by decide
  have a : (x + 2).toInt = x.toInt + 2 := by rw [gv_tadd (by omega) (by omega), i4]
  obtain ⟨e, e2, e3⟩ := gv_nI_of (x := x + 2) (by omega)
  refine ⟨e, ?_, ?_⟩
  · unfold gv_vw; omega
  · unfold gv_vw; rw [← e]; exact Int32.add_sub_cancel _ _
theorem gv_pr_p {R : Nat → Int32} (h : gv_P R) (b m : Nat) (V : Nat → Int32) (past next t : Nat) : gv_px (gv_pr R b m V past next t) := by
  unfold gv_pr
  split
  · exact ⟨by decide, by decide⟩
  split
  · exact gv_ft_p h _ _ _ _ _
  split
  · exact gv_ft_p h _ _ _ _ _
  · have a := gv_ft_p h past b (V 0) (V 1) t
    have c := gv_ft_p h next b (V 2) (V 3) t
    generalize gv_ft R past b (V 0) (V 1) t = x at a ⊢
    generalize gv_ft R next b (V 2) (V 3) t = y at c ⊢
    unfold gv_px at a c
    obtain ⟨e, e2, e3⟩ := gv_nI_of a.1
    obtain ⟨g, g2, g3⟩ := gv_nI_of c.1
    generalize x.toNatClampNeg = m1 at e e2 e3
    generalize y.toNatClampNeg = m2 at g g2 g3
    rw [e, g, nI_add, nI_1, pk_shrN (by omega) _ 1 (by decide)]
    unfold gv_px
    rw [nI_toInt (by omega)]
    omega
theorem gv_pr_c {R R' : Nat → Int32} {b m : Nat} {V V' : Nat → Int32} {past next past' next' : Nat} (hV : ∀ c, c < 4 → V c = V' c)
    (h1 : m ≠ 0 → m ≠ 2 → past = past' ∧ ∀ j, j < 64 → R (past * 64 + j) = R' (past * 64 + j))
    (h2 : m ≠ 0 → m ≠ 1 → next = next' ∧ ∀ j, j < 64 → R (next * 64 + j) = R' (next * 64 + j)) (t : Nat) :
    gv_pr R b m V past next t = gv_pr R' b m V' past' next' t := by
  unfold gv_pr
  rw [hV 0 (by omega), hV 1 (by omega), hV 2 (by omega), hV 3 (by omega)]
  by_cases m0 : m = 0
  · rw [if_pos m0, if_pos m0]
  rw [if_neg m0, if_neg m0]
  by_cases m1 : m = 1
  · rw [if_pos m1, if_pos m1]
    obtain ⟨e, h⟩ := h1 m0 (by omega)
    subst e
    exact gv_ft_c h t
  rw [if_neg m1, if_neg m1]
  obtain ⟨e, h⟩ := h2 m0 m1
  subst e
  by_cases m2 : m = 2
  · rw [if_pos m2, if_pos m2]
    exact gv_ft_c h t
  rw [if_neg m2, if_neg m2]
  obtain ⟨e', h'⟩ := h1 m0 m2
  subst e'
  rw [gv_ft_c h t, gv_ft_c h' t]
