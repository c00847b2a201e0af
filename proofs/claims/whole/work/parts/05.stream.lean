/-! the bit stream: what is written is read -/
def gv_rd (st : Nat → Int32) (p : Nat) : Nat → Nat
  | 0 => 0
  | w + 1 => gv_rd st p w * 2 + (if st (p + w) = 0 then 0 else 1)
theorem gv_rd_c {st st' : Nat → Int32} {p : Nat} : ∀ w, (∀ j, p ≤ j → j < p + w → st j = st' j) → gv_rd st p w = gv_rd st' p w
  | 0, _ => rfl
  | w + 1, h => by
    show gv_rd st p w * 2 + (if st (p + w) = 0 then 0 else 1) = gv_rd st' p w * 2 + (if st' (p + w) = 0 then 0 else 1)
    rw [gv_rd_c w (fun j h1 h2 => h j h1 (by omega)), h (p + w) (by omega) (by omega)]
theorem gv_rd_lt (st : Nat → Int32) (p : Nat) : ∀ w, gv_rd st p w < 2 ^ w
  | 0 => by show 0 < 1; omega
  | w + 1 => by
    have := gv_rd_lt st p w
    show gv_rd st p w * 2 + (if st (p + w) = 0 then 0 else 1) < 2 ^ (w + 1)
    rw [Nat.pow_succ]
    split <;> omega
/-- the stream with the w bits of v written at p -/
def gv_ws (st : Nat → Int32) (p v w : Nat) : Nat → Nat → Int32 := gv_wr st (fun i => p + i) (fun i => nI (v / 2 ^ (w - 1 - i) % 2))
theorem gv_ws_m {st : Nat → Int32} {p v w k j : Nat} (h : j < p ∨ p + k ≤ j) : gv_ws st p v w k j = st j := gv_wr_m k (fun i hi => by omega)
theorem gv_ws_h {st : Nat → Int32} {p v w k i : Nat} (h : i < k) : gv_ws st p v w k (p + i) = nI (v / 2 ^ (w - 1 - i) % 2) := gv_wr_h (g := fun i => p + i) k (fun j _ e => by omega) h
theorem gv_rd_w {st : Nat → Int32} {p v w : Nat} (hv : v < 2 ^ w) : ∀ k, k ≤ w → gv_rd (gv_ws st p v w w) p k = v / 2 ^ (w - k)
  | 0, _ => by show 0 = _; rw [Nat.sub_zero, Nat.div_eq_of_lt hv]
  | k + 1, h => by
    show gv_rd (gv_ws st p v w w) p k * 2 + (if gv_ws st p v w w (p + k) = 0 then 0 else 1) = _
    rw [gv_rd_w hv k (by omega), gv_ws_h (by omega)]
    have e : w - k = (w - 1 - k) + 1 := by omega
    have e2 : w - (k + 1) = w - 1 - k := by omega
    rw [e, e2, Nat.pow_succ, ← Nat.div_div_eq_div_mul]
    generalize v / 2 ^ (w - 1 - k) = z
    have hz : (nI (z % 2) = 0) ↔ z % 2 = 0 := by rw [← nI_0]; exact nI_eq (by omega) (by omega)
    by_cases c : z % 2 = 0
    · rw [if_pos (hz.mpr c)]; omega
    · rw [if_neg (fun q => c (hz.mp q))]; omega
theorem gv_rd_ws {st : Nat → Int32} {p v w : Nat} (hv : v < 2 ^ w) : gv_rd (gv_ws st p v w w) p w = v := by
  rw [gv_rd_w hv w (by omega), Nat.sub_self, Nat.pow_zero, Nat.div_one]
theorem gv_bit {v k : Nat} (hv : v < 2 ^ 31) (hk : k < 32) : (nI v >>> (nI k &&& 31)) &&& 1 = nI (v / 2 ^ k % 2) := by
  rw [pk_shrN hv _ k (s_l k hk), pk_andN (Nat.lt_of_le_of_lt (Nat.div_le_self _ _) (by omega)) 1 (by decide)]
/-- the best vector's number -/
def gv_bi (C L : Nat → Int32) : Nat → Nat
  | 0 => 0
  | i + 1 => if i = 0 then 0 else if C i < C (gv_bi C L i) ∨ (C i = C (gv_bi C L i) ∧ L i < L (gv_bi C L i)) then i else gv_bi C L i
theorem gv_bi_lt (C L : Nat → Int32) : ∀ i, 0 < i → gv_bi C L i < i
  | 0, h => by omega
  | i + 1, _ => by
    show (if i = 0 then 0 else if C i < C (gv_bi C L i) ∨ (C i = C (gv_bi C L i) ∧ L i < L (gv_bi C L i)) then i else gv_bi C L i) < i + 1
    by_cases h : i = 0
    · rw [if_pos h]; omega
    · have := gv_bi_lt C L i (by omega)
      rw [if_neg h]
      split <;> omega
theorem gv_bi_t {C L : Nat → Int32} {i : Nat} (h : i ≠ 0) (c : C i < C (gv_bi C L i) ∨ (C i = C (gv_bi C L i) ∧ L i < L (gv_bi C L i))) : gv_bi C L (i + 1) = i := by
  show (if i = 0 then 0 else _) = _
  rw [if_neg h, if_pos c]
theorem gv_bi_f {C L : Nat → Int32} {i : Nat} (h : i ≠ 0) (c : ¬ (C i < C (gv_bi C L i) ∨ (C i = C (gv_bi C L i) ∧ L i < L (gv_bi C L i)))) : gv_bi C L (i + 1) = gv_bi C L i := by
  show (if i = 0 then 0 else _) = _
  rw [if_neg h, if_neg c]
theorem gv_bi_1 {C L : Nat → Int32} : gv_bi C L 1 = 0 := rfl
def gv_vx (r i : Nat) : Int32 := nI (i % (2 * r + 1)) - nI r
def gv_vy (r i : Nat) : Int32 := nI (i / (2 * r + 1)) - nI r
def gv_ln (r i : Nat) : Int32 := gv_ab (gv_vx r i) + gv_ab (gv_vy r i)
def gv_sc (inp R : Nat → Int32) (r s f b i : Nat) : Int32 := gv_ct inp f b (gv_ft R s b (gv_vx r i) (gv_vy r i))
/-- the number of the best vector in reference s -/
def gv_se (inp R : Nat → Int32) (r s f b : Nat) : Nat := gv_bi (gv_sc inp R r s f b) (gv_ln r) ((2 * r + 1) * (2 * r + 1))
theorem gv_se_lt (inp R : Nat → Int32) (r s f b : Nat) : gv_se inp R r s f b < (2 * r + 1) * (2 * r + 1) := gv_bi_lt _ _ _ (Nat.mul_pos (by omega) (by omega))
theorem gv_v_b : ∀ r, r < 3 → ∀ i, i < (2 * r + 1) * (2 * r + 1) → (-2 ≤ (gv_vx r i).toInt ∧ (gv_vx r i).toInt ≤ 2) ∧ (-2 ≤ (gv_vy r i).toInt ∧ (gv_vy r i).toInt ≤ 2) := by decide +kernel
/-- the best vectors, forward and backward, used or not -/
def gv_vu (inp R : Nat → Int32) (r f b past next k : Nat) : Int32 :=
  if k = 0 then gv_vx r (gv_se inp R r past f b) else if k = 1 then gv_vy r (gv_se inp R r past f b)
  else if k = 2 then gv_vx r (gv_se inp R r next f b) else gv_vy r (gv_se inp R r next f b)
def gv_c1 (inp R : Nat → Int32) (r f b past : Nat) : Int32 := gv_sc inp R r past f b (gv_se inp R r past f b)
def gv_c3 (inp R : Nat → Int32) (r f b past next : Nat) : Int32 := gv_ct inp f b (gv_pr R b 3 (gv_vu inp R r f b past next) past next)
def gv_mo (inp R : Nat → Int32) (r ty f b past next : Nat) : Nat :=
  if ty = 0 then 0 else if ty = 1 then 1
  else if gv_c1 inp R r f b past ≤ gv_c1 inp R r f b next ∧ gv_c1 inp R r f b past ≤ gv_c3 inp R r f b past next then 1
  else if gv_c1 inp R r f b next ≤ gv_c3 inp R r f b past next then 2 else 3
def gv_vv (inp R : Nat → Int32) (r m f b past next k : Nat) : Int32 :=
  if k < 2 then (if m = 1 ∨ m = 3 then gv_vu inp R r f b past next k else 0) else (if m = 2 ∨ m = 3 then gv_vu inp R r f b past next k else 0)
theorem gv_mo_4 (inp R : Nat → Int32) (r ty f b past next : Nat) : gv_mo inp R r ty f b past next < 4 := by
  unfold gv_mo; split; omega; split; omega; split; omega; split <;> omega
theorem gv_mo_0 {inp R : Nat → Int32} {r ty f b past next : Nat} (h : ty = 0) : gv_mo inp R r ty f b past next = 0 := if_pos h
theorem gv_mo_1 {inp R : Nat → Int32} {r ty f b past next : Nat} (h : ty = 1) : gv_mo inp R r ty f b past next = 1 := by
  unfold gv_mo; rw [if_neg (by omega), if_pos h]
theorem gv_mo_2 {inp R : Nat → Int32} {r ty f b past next : Nat} (h : ty = 2) : gv_mo inp R r ty f b past next = if gv_c1 inp R r f b past ≤ gv_c1 inp R r f b next ∧ gv_c1 inp R r f b past ≤ gv_c3 inp R r f b past next then 1
  else if gv_c1 inp R r f b next ≤ gv_c3 inp R r f b past next then 2 else 3 := by
  unfold gv_mo; rw [if_neg (by omega), if_neg (by omega)]
theorem gv_vu_b {inp R : Nat → Int32} {r : Nat} (hr : r < 3) (f b past next k : Nat) : -2 ≤ (gv_vu inp R r f b past next k).toInt ∧ (gv_vu inp R r f b past next k).toInt ≤ 2 := by
  have a := gv_v_b r hr _ (gv_se_lt inp R r past f b)
  have c := gv_v_b r hr _ (gv_se_lt inp R r next f b)
  unfold gv_vu
  split; exact a.1
  split; exact a.2
  split; exact c.1
  exact c.2
theorem gv_vv_b {inp R : Nat → Int32} {r : Nat} (hr : r < 3) (m f b past next k : Nat) : -2 ≤ (gv_vv inp R r m f b past next k).toInt ∧ (gv_vv inp R r m f b past next k).toInt ≤ 2 := by
  have a := gv_vu_b (inp := inp) (R := R) hr f b past next k
  unfold gv_vv
  split <;> split <;> first | exact a | (rw [gv_i0]; omega)
theorem gv_vv_f {inp R : Nat → Int32} {r m f b past next k : Nat} (hk : k < 2) (h : m = 1 ∨ m = 3) : gv_vv inp R r m f b past next k = gv_vu inp R r f b past next k := by
  unfold gv_vv; rw [if_pos hk, if_pos h]
theorem gv_vv_b2 {inp R : Nat → Int32} {r m f b past next k : Nat} (hk : ¬ k < 2) (h : m = 2 ∨ m = 3) : gv_vv inp R r m f b past next k = gv_vu inp R r f b past next k := by
  unfold gv_vv; rw [if_neg hk, if_pos h]
theorem gv_vv_f0 {inp R : Nat → Int32} {r m f b past next k : Nat} (hk : k < 2) (h : ¬ (m = 1 ∨ m = 3)) : gv_vv inp R r m f b past next k = 0 := by
  unfold gv_vv; rw [if_pos hk, if_neg h]
theorem gv_vv_b0 {inp R : Nat → Int32} {r m f b past next k : Nat} (hk : ¬ k < 2) (h : ¬ (m = 2 ∨ m = 3)) : gv_vv inp R r m f b past next k = 0 := by
  unfold gv_vv; rw [if_neg hk, if_neg h]
theorem gv_vv_pr {inp R : Nat → Int32} {r m f b past next : Nat} (hm : m < 4) (t : Nat) : gv_pr R b m (gv_vv inp R r m f b past next) past next t = gv_pr R b m (gv_vu inp R r f b past next) past next t := by
  unfold gv_pr
  by_cases m0 : m = 0
  · rw [if_pos m0, if_pos m0]
  rw [if_neg m0, if_neg m0]
  by_cases m1 : m = 1
  · rw [if_pos m1, if_pos m1, gv_vv_f (by omega) (Or.inl m1), gv_vv_f (by omega) (Or.inl m1)]
  rw [if_neg m1, if_neg m1]
  by_cases m2 : m = 2
  · rw [if_pos m2, if_pos m2, gv_vv_b2 (by omega) (Or.inl m2), gv_vv_b2 (by omega) (Or.inl m2)]
  rw [if_neg m2, if_neg m2]
  have m3 : m = 3 := by omega
  rw [gv_vv_f (by omega) (Or.inr m3), gv_vv_f (by omega) (Or.inr m3), gv_vv_b2 (by omega) (Or.inr m3), gv_vv_b2 (by omega) (Or.inr m3)]
theorem gv_sc_b {inp R : Nat → Int32} (hi : gv_P inp) (hR : gv_P R) (r s f b i : Nat) : 0 ≤ (gv_sc inp R r s f b i).toInt ∧ (gv_sc inp R r s f b i).toInt ≤ 4080 :=
  gv_ct_b f b hi (fun t _ => gv_ft_p hR _ _ _ _ _)
/-- the pixels of a coded block -/
def gv_pp (R : Nat → Int32) (inp : Nat → Int32) (r ty f b past next : Nat) (t : Nat) : Int32 := gv_pr R b (gv_mo inp R r ty f b past next) (gv_vu inp R r f b past next) past next t
theorem gv_pp_p {inp R : Nat → Int32} (h : gv_P R) (r ty f b past next t : Nat) : gv_px (gv_pp R inp r ty f b past next t) := gv_pr_p h _ _ _ _ _ _
def gv_ll (R : Nat → Int32) (inp : Nat → Int32) (q r ty f b past next : Nat) (t : Nat) : Int32 := gv_lv inp f b q (gv_pp R inp r ty f b past next) t
theorem gv_ll_b {inp R : Nat → Int32} {q : Nat} (hi : gv_P inp) (hR : gv_P R) (hq : 0 < q) (hq2 : q ≤ 64) (r ty f b past next : Nat) {t : Nat} (ht : t < 16) : -4080 ≤ (gv_ll R inp q r ty f b past next t).toInt ∧ (gv_ll R inp q r ty f b past next t).toInt ≤ 4080 :=
  gv_lv_b hi (fun t _ => gv_pp_p hR r ty f b past next t) hq hq2 ht
/-- the picture behind the coding of a block -/
def gv_nb (R inp : Nat → Int32) (q r ty f b past next : Nat) : Nat → Int32 := gv_wr R (fun t => f * 64 + gv_id b t) (gv_rb (gv_pp R inp r ty f b past next) (gv_ll R inp q r ty f b past next) q) 16
theorem gv_nb_p {inp R : Nat → Int32} (h : gv_P R) (q r ty f b past next : Nat) : gv_P (gv_nb R inp q r ty f b past next) := gv_P_w h 16 (fun _ _ => gv_rb_p _ _ _ _)
/-- the vectors' array behind the coding of a block: four places -/
def gv_w4 (a : Nat → Int32) (k : Nat) (V : Nat → Int32) : Nat → Int32 := gv_wr a (fun c => k * 4 + c) V 4
theorem gv_w4_c {a V W : Nat → Int32} {k : Nat} (h : ∀ c, c < 4 → V c = W c) : gv_w4 a k V = gv_w4 a k W := gv_wr_c 4 (fun _ _ => rfl) h
theorem gv_w4_u {a V : Nat → Int32} {k c : Nat} (hc : c < 4) (x : Int32) : upd (gv_w4 a k V) (k * 4 + c) x = gv_w4 a k (fun i => if i = c then x else V i) := by
  funext j
  by_cases e : ∃ i, i < 4 ∧ j = k * 4 + i
  · obtain ⟨i, hi, rfl⟩ := e
    have h2 : ∀ W : Nat → Int32, gv_w4 a k W (k * 4 + i) = W i := fun W => gv_wr_h (g := fun c => k * 4 + c) 4 (fun j _ e => by omega) hi
    rw [h2]
    by_cases z : i = c
    · subst z; rw [pk_us, if_pos rfl]
    · rw [pk_un (by omega), h2, if_neg z]
  · have h2 : ∀ W : Nat → Int32, gv_w4 a k W j = a j := fun W => gv_wr_m 4 (fun i hi z => e ⟨i, hi, z⟩)
    rw [h2, pk_un (fun z => e ⟨c, hc, z⟩), h2]
