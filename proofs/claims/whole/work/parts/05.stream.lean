/-! the bit stream: what is written is read -/
def gv_rd (st : Nat → Int32) (p : Nat) : Nat → Nat
  | 0 => 0
  | w + 1 => gv_rd st p w * 2 + (if st (p + w) = 0 then 0 else 1)
theorem gv_rd_c {st st' : Nat → Int32} {p : Nat} : ∀ w, (∀ j, p ≤ j → j < p + w → st j = st' j) → gv_rd st p w = gv_rd st' p w
  | 0, _ => rfl
  | w + 1, h => by
    show gv_rd st p w * 2 + (if st (p + w) = 0 then 0 else 1) = gv_rd st' p w * 2 + (if st' (p + w) = 0 then 0 else 1)
    rw [gv_rd_c w (fun j h1 h2 => h j h1 (by omega)), h (p + w) (by omega) (by omega)]
theorem gv_rd_lt (st : Nat → Int32) (p : Nat) : ∀ w, gv_rd st p w < 2 ^ w
  | 0 => by show 0 < 1; omega
  | w + 1 => by
    have := gv_rd_lt st p w
    show gv_rd st p w * 2 + (if st (p + w) = 0 then 0 else 1) < 2 ^ (w + 1)
    rw [Nat.pow_succ]
    split <;> omega
/-- the stream with the w bits of v written at p -/
def gv_ws (st : Nat → Int32) (p v w : Nat) : Nat → Nat → Int32 := gv_wr st (fun i => p + i) (fun i => nI (v / 2 ^ (w - 1 - i) % 2))
theorem gv_ws_m {st : Nat → Int32} {p v w k j : Nat} (h : j < p ∨ p + k ≤ j) : gv_ws st p v w k j = st j := gv_wr_m k (fun i hi => by omega)
theorem gv_ws_h {st : Nat → Int32} {p v w k i : Nat} (h : i < k) : gv_ws st p v w k (p + i) = nI (v / 2 ^ (w - 1 - i) % 2) := gv_wr_h (g := fun i => p + i) k (fun j _ e => by omega) h
theorem gv_rd_w {st : Nat → Int32} {p v w : Nat} (hv : v < 2 ^ w) : ∀ k, k ≤ w → gv_rd (gv_ws st p v w w) p k = v / 2 ^ (w - k)
  | 0, _ => by show 0 = _; rw [Nat.sub_zero, Nat.div_eq_of_lt hv]
  | k + 1, h => by
    show gv_rd (gv_ws st p v w w) p k * 2 + (if gv_ws st p v w w (p + k) = 0 then 0 else 1) = _
    rw [gv_rd_w hv k (by omega), gv_ws_h (by omega)]
    have e : w - k = (w - 1 - k) + 1 := by omega
    have e2 : w - (k + 1) = w - 1 - k := by omega
    rw [e, e2, Nat.pow_succ, ← Nat.div_div_eq_div_mul]
    generalize v / 2 ^ (w - 1 - k) = z
    have hz : (nI (z % 2) = 0) ↔ z % 2 = 0 := by rw [← nI_0]; exact nI_eq (by omega) (by omega)
    by_cases c : z % 2 = 0
    · rw [if_pos (hz.mpr c)]; omega
    · rw [if_neg (fun q => c (hz.mp q))]; omega
theorem gv_rd_ws {st : Nat → Int32} {p v w : Nat} (hv : v < 2 ^ w) : gv_rd (gv_ws st p v w w) p w = v := by
  rw [gv_rd_w hv w (by omega), Nat.sub_self, Nat.pow_zero, Nat.div_one]
theorem gv_bit {v k : Nat} (hv : v < 2 ^ 31) (hk : k < 32) : (nI v >>> (nI k &&& 31)) &&& 1 = nI (v / 2 ^ k % 2) := by
  rw [pk_shrN hv _ k (s_l k hk), pk_andN (Nat.lt_of_le_of_lt (Nat.div_le_self _ _) (by omega)) 1 (by decide)]
/-- the best vector's number -/
def gv_bi (C L : Nat → Int32) : Nat → Nat
  | 0 => 0
  | i + 1 => if i = 0 then 0 else if C i < C (gv_bi C L i) ∨ (C i = C (gv_bi C L i) ∧ L i < L (gv_bi C L i)) then i else gv_bi C L i
theorem gv_bi_lt (C L : Nat → Int32) : ∀ i, 0 < i → gv_bi C L i < i
  | 0, h => by omega
  | i + 1, _ => by
    show (if i = 0 then 0 else if C i < C (gv_bi C L i) ∨ (C i = C (gv_bi C L i) ∧ L i < L (gv_bi C L i)) then i else gv_bi C L i) < i + 1
    by_cases h : i = 0
    · rw [if_pos h]; omega
    · have := gv_bi_lt C L i (by omega)
      rw [if_neg h]
      split <;> omega
theorem gv_bi_t {C L : Nat → Int32} {i : Nat} (h : i ≠ 0) (c : C i < C (gv_bi C L i) ∨ (C i = C (gv_bi C L i) ∧ L i < L (gv_bi C L i))) : gv_bi C L (i + 1) = i := by
  show (if i = 0 then 0 else _) = _
  rw [if_neg h, if_pos c]
theorem gv_bi_f {C L : Nat → Int32} {i : Nat} (h : i ≠ 0) (c : ¬ (C i < C (gv_bi C L i) ∨ (C i = C (gv_bi C L i) ∧ L i < L (gv_bi C L i)))) : gv_bi C L (i + 1) = gv_bi C L i := by
  show (if i = 0 then 0 else _) = _
  rw [if_neg h, if_neg c]
theorem gv_bi_1 {C L : Nat → Int32} : gv_bi C L 1 = 0 := rfl
def gv_vx (r i : Nat) : Int32 := nI (i % (2 * r + 1)) - nI r
def gv_vy (r i : Nat) : Int32 := nI (i / (2 * r + 1)) - nI r
def gv_ln (r i : Nat) : Int32 := gv_ab (gv_vx r i) + gv_ab (gv_vy r i)
def gv_sc (inp R : Nat → Int32) (r s f b i : Nat) : Int32 := gv_ct inp f b (gv_ft R s b (gv_vx r i) (gv_vy r i))
/-- the number of the best vector in reference s -/
def gv_se (inp R : Nat → Int32) (r s f b : Nat) : Nat := gv_bi (gv_sc inp R r s f b) (gv_ln r) ((2 * r + 1) * (2 * r + 1))
theorem gv_se_lt (inp R : Nat → Int32) (r s f b : Nat) : gv_se inp R r s f b < (2 * r + 1) * (2 * r + 1) := gv_bi_lt _ _ _ (Nat.mul_pos (by omega) (by omega))
theorem gv_v_b : ∀ r, r < 3 → ∀ i, i < (2 * r + 1) * (2 * r + 1) → (-2 ≤ (gv_vx r i).toInt ∧ (gv_vx r i).toInt ≤ 2) ∧ (-2 ≤ (gv_vy r i).toInt ∧ (gv_vy r i).toInt ≤ 2) := by decide +kernel
def gv_mo (inp R : Nat → Int32) (r ty f b past next : Nat) : Nat :=
  if ty = 0 then 0 else if ty = 1 then 1 else
    let i := gv_se inp R r past f b
    let j := gv_se inp R r next f b
    let c := gv_ct inp f b (gv_pr R b 3 (fun k => if k = 0 then gv_vx r i else if k = 1 then gv_vy r i else if k = 2 then gv_vx r j else gv_vy r j) past next)
    if gv_sc inp R r past f b i ≤ gv_sc inp R r next f b j ∧ gv_sc inp R r past f b i ≤ c then 1
    else if gv_sc inp R r next f b j ≤ c then 2 else 3
def gv_vv (inp R : Nat → Int32) (r ty f b past next k : Nat) : Int32 :=
  let m := gv_mo inp R r ty f b past next
  if k = 0 then (if m = 1 ∨ m = 3 then gv_vx r (gv_se inp R r past f b) else 0)
  else if k = 1 then (if m = 1 ∨ m = 3 then gv_vy r (gv_se inp R r past f b) else 0)
  else if k = 2 then (if m = 2 ∨ m = 3 then gv_vx r (gv_se inp R r next f b) else 0)
  else (if m = 2 ∨ m = 3 then gv_vy r (gv_se inp R r next f b) else 0)
