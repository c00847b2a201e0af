section
theorem pk_us {f : Nat → Int32} {k : Nat} {x : Int32} : upd f k x k = x := if_pos rfl
theorem pk_un {f : Nat → Int32} {k j : Nat} {x : Int32} (h : j ≠ k) : upd f k x j = f j := if_neg h
theorem pk_sub {a b : Nat} (h : b ≤ a) : nI a - nI b = nI (a - b) := by
  obtain ⟨c, rfl⟩ : ∃ c, a = c + b := ⟨a - b, by omega⟩
  rw [← nI_add, Int32.add_sub_cancel, Nat.add_sub_cancel]
theorem pk_m1 (n : Nat) : nI (n + 1) + (-1) = nI n := by
  rw [← nI_1, Int32.add_assoc, show (1 : Int32) + (-1) = 0 from rfl, Int32.add_zero]
theorem pk_mul (a b : Nat) : nI a * nI b = nI (a * b) := (Int32.ofNat_mul a b).symm
theorem pk_div {a d : Nat} (ha : a < 2 ^ 31) (h0 : 0 < d) (hd : d < 2 ^ 31) : nI a / nI d = nI (a / d) := by
  apply Int32.toInt_inj.mp
  rw [lg_idiv_nonneg (by rw [nI_toInt ha]; omega) (by rw [nI_toInt hd]; omega), nI_toInt ha, nI_toInt hd, nI_toInt (Nat.lt_of_le_of_lt (Nat.div_le_self a d) ha)]
  first | rfl | exact (Int.natCast_ediv _ _).symm
theorem pk_rem {a d : Nat} (ha : a < 2 ^ 31) (h0 : 0 < d) (hd : d < 2 ^ 31) : nI a - nI a / nI d * nI d = nI (a % d) := by
  rw [pk_div ha h0 hd, pk_mul, pk_sub (Nat.div_mul_le_self a d)]
  exact congrArg nI (by have := Nat.div_add_mod' a d; omega)
theorem pk_sub_toInt {a b : Nat} (ha : a < 2 ^ 30) (hb : b < 2 ^ 30) : (nI a - nI b).toInt = (a : Int) - b := by
  rw [Int32.toInt_sub, nI_toInt (by omega), nI_toInt (by omega)]
  exact Int.bmod_eq_of_le (by omega) (by omega)
theorem pk_sneg {a b : Nat} (hb : b < 2 ^ 30) (h : a < b) : nI a - nI b < 0 := by
  rw [Int32.lt_iff_toInt_lt, pk_sub_toInt (by omega) hb, show (0 : Int32).toInt = 0 from by decide]
  omega
theorem pk_ix (x : Int32) {n : Nat} (hn : n < 2 ^ 31) : x < 0 ∨ nI n ≤ x ∨ ∃ j : Nat, j < n ∧ x = nI j := by
  by_cases h : x < 0
  · exact Or.inl h
  · obtain ⟨j, hj, rfl⟩ := nI_of h
    by_cases h2 : j < n
    · exact Or.inr (Or.inr ⟨j, h2, rfl⟩)
    · exact Or.inr (Or.inl (nI_le (by omega) hj))
theorem pk_le {x y : Int32} {A B : Prop} (a b : Nat) (f : a ≤ b → A) (g : b < a → B) (hx : x = nI a := by rfl) (hy : y = nI b := by rfl) (ha : a < 2 ^ 31 := by omega) (hb : b < 2 ^ 31 := by omega) : (x ≤ y → A) ∧ (¬ x ≤ y → B) := by
  subst hx hy
  rw [nI_leI ha hb]
  exact ⟨f, fun z => g (by omega)⟩
theorem pk_lt {x y : Int32} {A B : Prop} (a b : Nat) (f : a < b → A) (g : b ≤ a → B) (hx : x = nI a := by rfl) (hy : y = nI b := by rfl) (ha : a < 2 ^ 31 := by omega) (hb : b < 2 ^ 31 := by omega) : (x < y → A) ∧ (¬ x < y → B) := by
  subst hx hy
  rw [nI_ltI ha hb]
  exact ⟨f, fun z => g (by omega)⟩
theorem pk_eq {x y : Int32} {A B : Prop} (a b : Nat) (f : a = b → A) (g : a ≠ b → B) (hx : x = nI a := by rfl) (hy : y = nI b := by rfl) (ha : a < 2 ^ 31 := by omega) (hb : b < 2 ^ 31 := by omega) : (x = y → A) ∧ (¬ x = y → B) := by
  subst hx hy
  rw [nI_eq ha hb]
  exact ⟨f, g⟩
theorem pk_in {x : Int32} (n N : Nat) (h : n < N) (hx : x = nI n := by rfl) (hN : N < 2 ^ 31 := by omega) : vp_in x N := by
  subst hx
  exact vp_in_nI h hN
theorem pk_cl {x : Int32} (n : Nat) (hx : x = nI n := by rfl) (h : n < 2 ^ 31 := by omega) : x.toNatClampNeg = n := by
  subst hx
  exact nI_clamp h
theorem pk_tn {n : Nat} (h : n < 2 ^ 32) : (nI n).toBitVec.toNat = n := Nat.mod_eq_of_lt h
theorem pk_and (x : Int32) {m : Int32} (k : Nat) (hm : m.toBitVec.toNat = 2 ^ k - 1) : x &&& m = nI (x.toBitVec.toNat % 2 ^ k) := by
  apply Int32.toBitVec_inj.mp
  apply BitVec.eq_of_toNat_eq
  rw [Int32.toBitVec_and, BitVec.toNat_and, hm, Nat.and_two_pow_sub_one_eq_mod]
  show _ = (BitVec.ofNat 32 _).toNat
  rw [BitVec.toNat_ofNat]
  exact (Nat.mod_eq_of_lt (Nat.lt_of_le_of_lt (Nat.mod_le _ _) x.toBitVec.isLt)).symm
theorem pk_andN {n : Nat} (h : n < 2 ^ 32) {m : Int32} (k : Nat) (hm : m.toBitVec.toNat = 2 ^ k - 1) : nI n &&& m = nI (n % 2 ^ k) := by
  rw [pk_and _ k hm, pk_tn h]
theorem pk_andE (x : Int32) {m : Int32} (k : Nat) (hm : m.toBitVec.toNat = 2 ^ k - 1) : ∃ j : Nat, j < 2 ^ k ∧ x &&& m = nI j := ⟨_, Nat.mod_lt _ (Nat.two_pow_pos k), pk_and x k hm⟩
theorem pk_andIn (x : Int32) {m : Int32} (k : Nat) (hm : m.toBitVec.toNat = 2 ^ k - 1) (hk : k ≤ 30) : vp_in (x &&& m) (2 ^ k) := by
  obtain ⟨j, hj, e⟩ := pk_andE x k hm
  rw [e]
  exact vp_in_nI hj (Nat.lt_of_le_of_lt (Nat.pow_le_pow_right (by decide) hk) (by decide))
theorem pk_shl (a s : Int32) (k : Nat) (hs : (s.toBitVec.smod 32).toNat = k) : (a <<< s).toBitVec.toNat = a.toBitVec.toNat * 2 ^ k % 2 ^ 32 := by
  show (a.toBitVec <<< (s.toBitVec.smod 32).toNat).toNat = _
  rw [hs, BitVec.toNat_shiftLeft, Nat.shiftLeft_eq]
theorem pk_shlN {n : Nat} (s : Int32) (k : Nat) (hs : (s.toBitVec.smod 32).toNat = k) (h : n * 2 ^ k < 2 ^ 32) : nI n <<< s = nI (n * 2 ^ k) := by
  apply Int32.toBitVec_inj.mp
  apply BitVec.eq_of_toNat_eq
  have hn : n < 2 ^ 32 := Nat.lt_of_le_of_lt (Nat.le_mul_of_pos_right n (Nat.two_pow_pos k)) h
  rw [pk_shl _ _ k hs, pk_tn hn, pk_tn h, Nat.mod_eq_of_lt h]
theorem pk_shr (a s : Int32) (k : Nat) (hs : (s.toBitVec.smod 32).toNat = k) : (a >>> s).toInt = a.toInt >>> k := by
  show (a.toBitVec.sshiftRight (s.toBitVec.smod 32).toNat).toInt = _
  rw [hs, BitVec.toInt_sshiftRight]
  rfl
theorem pk_shrN {n : Nat} (h : n < 2 ^ 31) (s : Int32) (k : Nat) (hs : (s.toBitVec.smod 32).toNat = k) : nI n >>> s = nI (n / 2 ^ k) := by
  apply Int32.toInt_inj.mp
  have h2 : n / 2 ^ k ≤ n := Nat.div_le_self _ _
  rw [pk_shr _ _ k hs, nI_toInt h, nI_toInt (by omega), Int.shiftRight_eq_div_pow]
  rfl
theorem pk_ushr (x s : Int32) (k : Nat) (hs : ((s.toUInt32 &&& Int32.toUInt32 31).toBitVec % 32).toNat = k) : (x.toUInt32 >>> (s.toUInt32 &&& Int32.toUInt32 31)).toInt32.toBitVec.toNat = x.toBitVec.toNat / 2 ^ k := by
  have e : (x.toUInt32 >>> (s.toUInt32 &&& Int32.toUInt32 31)).toInt32.toBitVec = x.toBitVec >>> k := by
    rw [← hs]
    exact UInt32.toBitVec_shiftRight _ _
  rw [e, BitVec.toNat_ushiftRight, Nat.shiftRight_eq_div_pow]
theorem pk_ushrN {n : Nat} (hn : n < 2 ^ 32) (s : Int32) (k : Nat) (hs : ((s.toUInt32 &&& Int32.toUInt32 31).toBitVec % 32).toNat = k) : ((nI n).toUInt32 >>> (s.toUInt32 &&& Int32.toUInt32 31)).toInt32 = nI (n / 2 ^ k) := by
  apply Int32.toBitVec_inj.mp
  apply BitVec.eq_of_toNat_eq
  rw [pk_ushr _ s k hs, pk_tn hn, pk_tn (Nat.lt_of_le_of_lt (Nat.div_le_self _ _) hn)]
theorem pk_loop {σ : Type} (W : Nat → Nat → σ → Prop) (I : Nat → σ → Prop) (e i0 : Nat) (s : σ) (hi : i0 ≤ e) (h0 : I i0 s) (hx : ∀ n s, I e s → W (n + 1) e s)
    (hs : ∀ n i s, i < e → I i s → (∀ s', I (i + 1) s' → W n (i + 1) s') → W (n + 1) i s) : ∃ n, W n i0 s :=
  ⟨e + 1, loop_i W I e hx hs (e + 1) i0 s hi (by omega) h0⟩
theorem pk_loopD {σ : Type} (W : Nat → Nat → σ → Prop) (I : Nat → σ → Prop) (hx : ∀ n s, I 0 s → W (n + 1) 0 s)
    (hs : ∀ n i s, I (i + 1) s → (∀ s', I i s' → W n i s') → W (n + 1) (i + 1) s) : ∀ (e : Nat) (s : σ), I e s → W (e + 1) e s := by
  intro e
  induction e with
  | zero => exact fun s h => hx 0 s h
  | succ e ih => exact fun s h => hs (e + 1) e s h (fun s' h' => ih s' h')
theorem s_l : ∀ n, n < 32 → ((nI n &&& 31).toBitVec.smod 32).toNat = n := by decide +kernel
theorem s_u : ∀ n, n < 32 → (((nI n).toUInt32 &&& Int32.toUInt32 31).toBitVec % 32).toNat = n := by decide +kernel
theorem nx_and (a b : Nat) : nI a &&& nI b = nI (a &&& b) := by
  apply Int32.toBitVec_inj.1
  show BitVec.ofNat 32 a &&& BitVec.ofNat 32 b = BitVec.ofNat 32 (a &&& b)
  apply BitVec.eq_of_getLsbD_eq
  intro i hi
  simp [hi]
end
section
/-! pure pictures: sums, successive writes, pixels, blocks -/
def gv_sm (f : Nat → Int32) : Nat → Int32
  | 0 => 0
  | n + 1 => gv_sm f n + f n
def gv_wr (a : Nat → Int32) (g : Nat → Nat) (v : Nat → Int32) : Nat → Nat → Int32
  | 0 => a
  | n + 1 => upd (gv_wr a g v n) (g n) (v n)
theorem gv_sm_s (f : Nat → Int32) (n : Nat) : gv_sm f n + f n = gv_sm f (n + 1) := rfl
theorem gv_wr_s (a : Nat → Int32) (g : Nat → Nat) (v : Nat → Int32) (n : Nat) : upd (gv_wr a g v n) (g n) (v n) = gv_wr a g v (n + 1) := rfl
theorem gv_sm_c {f g : Nat → Int32} : ∀ n, (∀ i, i < n → f i = g i) → gv_sm f n = gv_sm g n
  | 0, _ => rfl
  | n + 1, h => by
    show gv_sm f n + f n = gv_sm g n + g n
    rw [gv_sm_c n (fun i hi => h i (by omega)), h n (by omega)]
theorem gv_wr_c {a : Nat → Int32} {g g' : Nat → Nat} {v w : Nat → Int32} : ∀ n, (∀ i, i < n → g i = g' i) → (∀ i, i < n → v i = w i) → gv_wr a g v n = gv_wr a g' w n
  | 0, _, _ => rfl
  | n + 1, hg, h => by
    show upd (gv_wr a g v n) (g n) (v n) = upd (gv_wr a g' w n) (g' n) (w n)
    rw [gv_wr_c n (fun i hi => hg i (by omega)) (fun i hi => h i (by omega)), h n (by omega), hg n (by omega)]
theorem gv_wr_m {a : Nat → Int32} {g : Nat → Nat} {v : Nat → Int32} {j : Nat} : ∀ n, (∀ i, i < n → j ≠ g i) → gv_wr a g v n j = a j
  | 0, _ => rfl
  | n + 1, h => by
    show upd (gv_wr a g v n) (g n) (v n) j = a j
    rw [pk_un (h n (by omega)), gv_wr_m n (fun i hi => h i (by omega))]
theorem gv_wr_h {a : Nat → Int32} {g : Nat → Nat} {v : Nat → Int32} {i : Nat} : ∀ n, (∀ j, j < n → g i = g j → i = j) → i < n → gv_wr a g v n (g i) = v i
  | 0, _, h => by omega
  | n + 1, inj, h => by
    show upd (gv_wr a g v n) (g n) (v n) (g i) = v i
    by_cases e : i = n
    · subst e; exact pk_us
    · rw [pk_un (fun z => e (inj n (by omega) z)), gv_wr_h n (fun j hj => inj j (by omega)) (by omega)]
/-- a pixel: 0 to 255 -/
def gv_px (x : Int32) : Prop := 0 ≤ x.toInt ∧ x.toInt ≤ 255
def gv_P (a : Nat → Int32) : Prop := ∀ j, gv_px (a j)
theorem gv_P0 : gv_P (fun _ => 0) := fun _ => (⟨by decide, by decide⟩ : gv_px 0)
theorem gv_P_u {a : Nat → Int32} {k : Nat} {x : Int32} (h : gv_P a) (hx : gv_px x) : gv_P (upd a k x) := by
  intro j
  by_cases e : j = k
  · subst e; rw [pk_us]; exact hx
  · rw [pk_un e]; exact h j
theorem gv_P_w {a : Nat → Int32} {g : Nat → Nat} {v : Nat → Int32} (h : gv_P a) : ∀ n, (∀ i, i < n → gv_px (v i)) → gv_P (gv_wr a g v n)
  | 0, _ => h
  | n + 1, hv => gv_P_u (gv_P_w h n (fun i hi => hv i (by omega))) (hv n (by omega))
/-- clamp -/
def gv_cp (v lo hi : Int32) : Int32 := if v < lo then lo else if hi < v then hi else v
def gv_ab (x : Int32) : Int32 := if x < 0 then -x else x
def gv_c7 (x : Int32) : Nat := (gv_cp x 0 7).toNatClampNeg
theorem gv_lt (x y : Int32) : x < y ↔ x.toInt < y.toInt := Int32.lt_iff_toInt_lt
theorem gv_le (x y : Int32) : x ≤ y ↔ x.toInt ≤ y.toInt := Int32.le_iff_toInt_le
theorem gv_i0 : (0 : Int32).toInt = 0 := by decide
theorem gv_i7 : (7 : Int32).toInt = 7 := by decide
theorem gv_i255 : (255 : Int32).toInt = 255 := by decide
theorem gv_cp_r {v lo hi : Int32} (h : lo.toInt ≤ hi.toInt) : lo.toInt ≤ (gv_cp v lo hi).toInt ∧ (gv_cp v lo hi).toInt ≤ hi.toInt := by
  unfold gv_cp
  by_cases a : v < lo
  · rw [if_pos a]; omega
  · rw [if_neg a]
    rw [gv_lt] at a
    by_cases b : hi < v
    · rw [if_pos b]; omega
    · rw [if_neg b]; rw [gv_lt] at b; omega
theorem gv_nI_of {x : Int32} (h : 0 ≤ x.toInt) : x = nI x.toNatClampNeg ∧ ((x.toNatClampNeg : Nat) : Int) = x.toInt ∧ x.toNatClampNeg < 2 ^ 31 := by
  obtain ⟨j, hj, rfl⟩ := nI_of (x := x) (by rw [gv_lt, gv_i0]; omega)
  rw [nI_clamp hj, nI_toInt hj]
  exact ⟨rfl, rfl, hj⟩
theorem gv_c7_e (x : Int32) : gv_cp x 0 7 = nI (gv_c7 x) ∧ gv_c7 x < 8 := by
  have h := gv_cp_r (v := x) (lo := 0) (hi := 7) (by decide)
  rw [gv_i0, gv_i7] at h
  obtain ⟨a, b, c⟩ := gv_nI_of h.1
  refine ⟨a, ?_⟩
  unfold gv_c7; omega
theorem gv_c255 (x : Int32) : gv_px (gv_cp x 0 255) := by
  have h := gv_cp_r (v := x) (lo := 0) (hi := 255) (by decide)
  rw [gv_i0, gv_i255] at h
  exact h
theorem gv_clo {v lo hi : Int32} (h : v < lo) : gv_cp v lo hi = lo := if_pos h
theorem gv_chi {v lo hi : Int32} (h : ¬ v < lo) (g : hi < v) : gv_cp v lo hi = hi := by unfold gv_cp; rw [if_neg h, if_pos g]
theorem gv_cmi {v lo hi : Int32} (h : ¬ v < lo) (g : ¬ hi < v) : gv_cp v lo hi = v := by unfold gv_cp; rw [if_neg h, if_neg g]
/-- the place of pixel t of block b in its frame -/
def gv_id (b t : Nat) : Nat := (4 * (b / 2) + t / 4) * 8 + (4 * (b % 2) + t % 4)
theorem gv_id_lt : ∀ b, b < 4 → ∀ t, t < 16 → gv_id b t < 64 := by decide +kernel
theorem gv_id_inj : ∀ b, b < 4 → ∀ t, t < 16 → ∀ s, s < 16 → gv_id b t = gv_id b s → t = s := by decide +kernel
theorem gv_id_blk : ∀ b, b < 4 → ∀ c, c < 4 → ∀ t, t < 16 → ∀ s, s < 16 → gv_id b t = gv_id c s → b = c := by decide +kernel
def gv_jb (j : Nat) : Nat := 2 * (j / 32) + j % 8 / 4
def gv_jt (j : Nat) : Nat := j / 8 % 4 * 4 + j % 4
theorem gv_id_all : ∀ j, j < 64 → gv_jb j < 4 ∧ gv_jt j < 16 ∧ gv_id (gv_jb j) (gv_jt j) = j := by decide +kernel
/-- the block of 16 pixels fetched at a vector -/
def gv_ft (R : Nat → Int32) (f b : Nat) (vx vy : Int32) (t : Nat) : Int32 := R (f * 64 + gv_c7 (nI (4 * (b / 2) + t / 4) + vy) * 8 + gv_c7 (nI (4 * (b % 2) + t % 4) + vx))
theorem gv_ft_c {R R' : Nat → Int32} {f b : Nat} {vx vy : Int32} (h : ∀ j, j < 64 → R (f * 64 + j) = R' (f * 64 + j)) (t : Nat) : gv_ft R f b vx vy t = gv_ft R' f b vx vy t := by
  unfold gv_ft
  have a := (gv_c7_e (nI (4 * (b / 2) + t / 4) + vy)).2
  have c := (gv_c7_e (nI (4 * (b % 2) + t % 4) + vx)).2
  rw [Nat.add_assoc]
  exact h _ (by omega)
theorem gv_ft_p {R : Nat → Int32} (h : gv_P R) (f b : Nat) (vx vy : Int32) (t : Nat) : gv_px (gv_ft R f b vx vy t) := h _
def gv_ct (inp : Nat → Int32) (f b : Nat) (P : Nat → Int32) : Int32 := gv_sm (fun t => gv_ab (inp (f * 64 + gv_id b t) - P t)) 16
def gv_h (r c : Nat) : Int32 := if r = 0 then 1 else if r = 1 then (if c < 2 then 1 else -1) else if r = 2 then (if c = 0 ∨ c = 3 then 1 else -1) else (if c = 0 ∨ c = 2 then 1 else -1)
theorem gv_h_sym : ∀ r, r < 4 → ∀ c, c < 4 → gv_h r c = gv_h c r := by decide +kernel
theorem gv_h_1 : ∀ r, r < 4 → ∀ c, c < 4 → gv_h r c = 1 ∨ gv_h r c = -1 := by decide +kernel
def gv_tr (F : Nat → Int32) (t : Nat) : Int32 := gv_sm (fun s => gv_h (t / 4) (s / 4) * F s * gv_h (t % 4) (s % 4)) 16
theorem gv_tr_c {F G : Nat → Int32} (h : ∀ s, s < 16 → F s = G s) (t : Nat) : gv_tr F t = gv_tr G t := gv_sm_c 16 (fun s hs => by rw [h s hs])
def gv_qt (q : Nat) (y : Int32) : Int32 := if y < 0 then -((gv_ab y + nI q / 2) / nI q) else (gv_ab y + nI q / 2) / nI q
def gv_rs (inp : Nat → Int32) (f b : Nat) (P : Nat → Int32) (s : Nat) : Int32 := inp (f * 64 + gv_id b s) - P s
def gv_lv (inp : Nat → Int32) (f b q : Nat) (P : Nat → Int32) (t : Nat) : Int32 := gv_qt q (gv_tr (gv_rs inp f b P) t)
def gv_rb (P L : Nat → Int32) (q t : Nat) : Int32 := gv_cp (P t + ((gv_tr (fun s => L s * nI q) t + 8) >>> ((4 : Int32) &&& 31))) 0 255
theorem gv_rb_p (P L : Nat → Int32) (q t : Nat) : gv_px (gv_rb P L q t) := gv_c255 _
theorem gv_rb_c {P P' L L' : Nat → Int32} (q : Nat) {t : Nat} (h : P t = P' t) (hL : ∀ s, s < 16 → L s = L' s) : gv_rb P L q t = gv_rb P' L' q t := by
  unfold gv_rb
  rw [h, gv_tr_c (fun s hs => by rw [hL s hs])]
def gv_nz (L : Nat → Int32) : Int32 := gv_sm (fun t => if L t = 0 then 0 else 1) 16
def gv_pr (R : Nat → Int32) (b m : Nat) (V : Nat → Int32) (past next t : Nat) : Int32 :=
  if m = 0 then 128 else if m = 1 then gv_ft R past b (V 0) (V 1) t else if m = 2 then gv_ft R next b (V 2) (V 3) t
  else (gv_ft R past b (V 0) (V 1) t + gv_ft R next b (V 2) (V 3) t + 1) >>> ((1 : Int32) &&& 31)
end
section
/-! ranges: costs, coefficients, levels -/
theorem gv_bm {x : Int} (h1 : -2147483648 ≤ x) (h2 : x < 2147483648) : x.bmod (2 ^ 32) = x := Int.bmod_eq_of_le (by omega) (by omega)
theorem gv_tadd {x y : Int32} (h1 : -2147483648 ≤ x.toInt + y.toInt) (h2 : x.toInt + y.toInt < 2147483648) : (x + y).toInt = x.toInt + y.toInt := by
  rw [Int32.toInt_add]; exact gv_bm h1 h2
theorem gv_tsub {x y : Int32} (h1 : -2147483648 ≤ x.toInt - y.toInt) (h2 : x.toInt - y.toInt < 2147483648) : (x - y).toInt = x.toInt - y.toInt := by
  rw [Int32.toInt_sub]; exact gv_bm h1 h2
theorem gv_tneg {x : Int32} (h : -2147483648 < x.toInt) (h2 : x.toInt < 2147483648) : (-x).toInt = -x.toInt := by
  rw [Int32.toInt_neg]; exact gv_bm (by omega) (by omega)
theorem gv_sm_b {f : Nat → Int32} : ∀ n, n ≤ 16 → (∀ i, i < n → -255 ≤ (f i).toInt ∧ (f i).toInt ≤ 255) → -(255 * (n : Int)) ≤ (gv_sm f n).toInt ∧ (gv_sm f n).toInt ≤ 255 * (n : Int)
  | 0, _, _ => by show _ ≤ (0 : Int32).toInt ∧ (0 : Int32).toInt ≤ _; rw [gv_i0]; omega
  | n + 1, hn, h => by
    have a := gv_sm_b n (by omega) (fun i hi => h i (by omega))
    have b := h n (by omega)
    show _ ≤ (gv_sm f n + f n).toInt ∧ (gv_sm f n + f n).toInt ≤ _
    rw [gv_tadd (by omega) (by omega)]
    omega
theorem gv_sm_n {f : Nat → Int32} : ∀ n, n ≤ 16 → (∀ i, i < n → 0 ≤ (f i).toInt ∧ (f i).toInt ≤ 255) → 0 ≤ (gv_sm f n).toInt ∧ (gv_sm f n).toInt ≤ 255 * (n : Int)
  | 0, _, _ => by show _ ≤ (0 : Int32).toInt ∧ (0 : Int32).toInt ≤ _; rw [gv_i0]; omega
  | n + 1, hn, h => by
    have a := gv_sm_n n (by omega) (fun i hi => h i (by omega))
    have b := h n (by omega)
    show _ ≤ (gv_sm f n + f n).toInt ∧ (gv_sm f n + f n).toInt ≤ _
    rw [gv_tadd (by omega) (by omega)]
    omega
theorem gv_ab_t {x : Int32} (h : -2147483648 < x.toInt) (h2 : x.toInt < 2147483648) : (gv_ab x).toInt = if x.toInt < 0 then -x.toInt else x.toInt := by
  unfold gv_ab
  by_cases a : x < 0
  · rw [if_pos a, gv_tneg h h2]
    rw [gv_lt, gv_i0] at a
    rw [if_pos a]
  · rw [if_neg a]
    rw [gv_lt, gv_i0] at a
    rw [if_neg a]
theorem gv_d_b {x y : Int32} (hx : gv_px x) (hy : gv_px y) : -255 ≤ (x - y).toInt ∧ (x - y).toInt ≤ 255 := by
  unfold gv_px at hx hy
  rw [gv_tsub (by omega) (by omega)]
  omega
theorem gv_ct_b {inp P : Nat → Int32} (f b : Nat) (hi : gv_P inp) (hP : ∀ t, t < 16 → gv_px (P t)) : 0 ≤ (gv_ct inp f b P).toInt ∧ (gv_ct inp f b P).toInt ≤ 4080 := by
  have := gv_sm_n (f := fun t => gv_ab (inp (f * 64 + gv_id b t) - P t)) 16 (by omega) (fun t ht => by
    have a := gv_d_b (hi (f * 64 + gv_id b t)) (hP t ht)
    show 0 ≤ (gv_ab (inp (f * 64 + gv_id b t) - P t)).toInt ∧ (gv_ab (inp (f * 64 + gv_id b t) - P t)).toInt ≤ 255
    rw [gv_ab_t (by omega) (by omega)]
    split <;> omega)
  unfold gv_ct
  omega
theorem gv_hh {a b d : Int32} (ha : a = 1 ∨ a = -1) (hb : b = 1 ∨ b = -1) : a * d * b = d ∨ a * d * b = -d := by
  rcases ha with rfl | rfl <;> rcases hb with rfl | rfl
  · left; grind
  · right; grind
  · right; grind
  · left; grind
theorem gv_tr_b {F : Nat → Int32} (h : ∀ s, s < 16 → -255 ≤ (F s).toInt ∧ (F s).toInt ≤ 255) {t : Nat} (ht : t < 16) : -4080 ≤ (gv_tr F t).toInt ∧ (gv_tr F t).toInt ≤ 4080 := by
  have := gv_sm_b (f := fun s => gv_h (t / 4) (s / 4) * F s * gv_h (t % 4) (s % 4)) 16 (by omega) (fun s hs => by
    have a := h s hs
    show -255 ≤ (gv_h (t / 4) (s / 4) * F s * gv_h (t % 4) (s % 4)).toInt ∧ (gv_h (t / 4) (s / 4) * F s * gv_h (t % 4) (s % 4)).toInt ≤ 255
    rcases gv_hh (d := F s) (gv_h_1 (t / 4) (by omega) (s / 4) (by omega)) (gv_h_1 (t % 4) (by omega) (s % 4) (by omega)) with e | e
    · rw [e]; exact a
    · rw [e, gv_tneg (by omega) (by omega)]; omega)
  unfold gv_tr
  omega
theorem gv_qt_b {q : Nat} (hq : 0 < q) (hq2 : q ≤ 64) {y : Int32} (h1 : -4080 ≤ y.toInt) (h2 : y.toInt ≤ 4080) : -4080 ≤ (gv_qt q y).toInt ∧ (gv_qt q y).toInt ≤ 4080 := by
  have a := gv_ab_t (x := y) (by omega) (by omega)
  have a0 : 0 ≤ (gv_ab y).toInt ∧ (gv_ab y).toInt ≤ 4080 := by rw [a]; split <;> omega
  obtain ⟨e, e2, e3⟩ := gv_nI_of a0.1
  generalize (gv_ab y).toNatClampNeg = m at e e2 e3
  have hm : m ≤ 4080 := by omega
  have d : (gv_ab y + nI q / 2) / nI q = nI ((m + q / 2) / q) := by
    rw [e, show (2 : Int32) = nI 2 from rfl, pk_div (by omega) (by omega) (by omega), nI_add, pk_div (by omega) (by omega) (by omega)]
  have hd : (m + q / 2) / q ≤ 4080 := Nat.div_le_of_le_mul (by omega)
  unfold gv_qt
  rw [d]
  generalize (m + q / 2) / q = z at hd ⊢
  have hz := nI_toInt (n := z) (by omega)
  split
  · rw [gv_tneg (by omega) (by omega), hz]; omega
  · rw [hz]; omega
theorem gv_lv_b {inp P : Nat → Int32} {f b q : Nat} (hi : gv_P inp) (hP : ∀ t, t < 16 → gv_px (P t)) (hq : 0 < q) (hq2 : q ≤ 64) {t : Nat} (ht : t < 16) : -4080 ≤ (gv_lv inp f b q P t).toInt ∧ (gv_lv inp f b q P t).toInt ≤ 4080 := by
  have a := gv_tr_b (F := gv_rs inp f b P) (fun s hs => gv_d_b (hi _) (hP s hs)) ht
  exact gv_qt_b hq hq2 a.1 a.2
/-- a level as it is written: 13 bits -/
def gv_lw (x : Int32) : Nat := (x + 4096).toNatClampNeg
theorem gv_lw_e {x : Int32} (h1 : -4096 ≤ x.toInt) (h2 : x.toInt < 4096) : x + 4096 = nI (gv_lw x) ∧ gv_lw x < 8192 ∧ nI (gv_lw x) - 4096 = x := by
  have i4 : (4096 : Int32).toInt = 4096 := by decide
  have a : (x + 4096).toInt = x.toInt + 4096 := by rw [gv_tadd (by omega) (by omega), i4]
  obtain ⟨e, e2, e3⟩ := gv_nI_of (x := x + 4096) (by omega)
  refine ⟨e, ?_, ?_⟩
  · unfold gv_lw; omega
  · unfold gv_lw; rw [← e]; exact Int32.add_sub_cancel _ _
def gv_vw (x : Int32) : Nat := (x + 2).toNatClampNeg
theorem gv_vw_e {x : Int32} (h1 : -2 ≤ x.toInt) (h2 : x.toInt ≤ 2) : x + 2 = nI (gv_vw x) ∧ gv_vw x < 8 ∧ nI (gv_vw x) - 2 = x := by
  have i4 : (2 : Int32).toInt = 2 := by decide
  have a : (x + 2).toInt = x.toInt + 2 := by rw [gv_tadd (by omega) (by omega), i4]
  obtain ⟨e, e2, e3⟩ := gv_nI_of (x := x + 2) (by omega)
  refine ⟨e, ?_, ?_⟩
  · unfold gv_vw; omega
  · unfold gv_vw; rw [← e]; exact Int32.add_sub_cancel _ _
theorem gv_pr_p {R : Nat → Int32} (h : gv_P R) (b m : Nat) (V : Nat → Int32) (past next t : Nat) : gv_px (gv_pr R b m V past next t) := by
  unfold gv_pr
  split
  · exact ⟨by decide, by decide⟩
  split
  · exact gv_ft_p h _ _ _ _ _
  split
  · exact gv_ft_p h _ _ _ _ _
  · have a := gv_ft_p h past b (V 0) (V 1) t
    have c := gv_ft_p h next b (V 2) (V 3) t
    generalize gv_ft R past b (V 0) (V 1) t = x at a ⊢
    generalize gv_ft R next b (V 2) (V 3) t = y at c ⊢
    unfold gv_px at a c
    obtain ⟨e, e2, e3⟩ := gv_nI_of a.1
    obtain ⟨g, g2, g3⟩ := gv_nI_of c.1
    generalize x.toNatClampNeg = m1 at e e2 e3
    generalize y.toNatClampNeg = m2 at g g2 g3
    rw [e, g, nI_add, nI_1, pk_shrN (by omega) _ 1 (by decide)]
    unfold gv_px
    rw [nI_toInt (by omega)]
    omega
theorem gv_pr_c {R R' : Nat → Int32} {b m : Nat} {V V' : Nat → Int32} {past next past' next' : Nat} (hV : ∀ c, c < 4 → V c = V' c)
    (h1 : m ≠ 0 → m ≠ 2 → past = past' ∧ ∀ j, j < 64 → R (past * 64 + j) = R' (past * 64 + j))
    (h2 : m ≠ 0 → m ≠ 1 → next = next' ∧ ∀ j, j < 64 → R (next * 64 + j) = R' (next * 64 + j)) (t : Nat) :
    gv_pr R b m V past next t = gv_pr R' b m V' past' next' t := by
  unfold gv_pr
  rw [hV 0 (by omega), hV 1 (by omega), hV 2 (by omega), hV 3 (by omega)]
  by_cases m0 : m = 0
  · rw [if_pos m0, if_pos m0]
  rw [if_neg m0, if_neg m0]
  by_cases m1 : m = 1
  · rw [if_pos m1, if_pos m1]
    obtain ⟨e, h⟩ := h1 m0 (by omega)
    subst e
    exact gv_ft_c h t
  rw [if_neg m1, if_neg m1]
  obtain ⟨e, h⟩ := h2 m0 m1
  subst e
  by_cases m2 : m = 2
  · rw [if_pos m2, if_pos m2]
    exact gv_ft_c h t
  rw [if_neg m2, if_neg m2]
  obtain ⟨e', h'⟩ := h1 m0 m2
  subst e'
  rw [gv_ft_c h t, gv_ft_c h' t]
end
section
/-! types, anchors, coding order: over 4 * 9 cases -/
def gv_ty (mb n k : Nat) : Nat := if k = 0 then 0 else if k % (mb + 1) = 0 ∨ k = n - 1 then 1 else 2
def gv_pa (mb n : Nat) : Nat → Nat
  | 0 => 0
  | k + 1 => if gv_ty mb n k = 2 then gv_pa mb n k else k
def gv_nx (mb n : Nat) : Nat → Nat → Nat
  | 0, _ => n - 1
  | d + 1, a => if gv_ty mb n a = 2 then gv_nx mb n d (a + 1) else a
def gv_na (mb n k : Nat) : Nat := gv_nx mb n (n - (k + 1)) (k + 1)
def gv_od (mb n : Nat) : Nat → Nat
  | 0 => 0
  | j + 1 => if gv_ty mb n j = 2 then j else gv_na mb n j
def gv_nw (mb n : Nat) : Nat → Nat
  | 0 => 0
  | d + 1 => if gv_ty mb n (gv_od mb n d) = 2 then gv_nw mb n d else gv_od mb n d
def gv_ol (mb n : Nat) : Nat → Nat
  | 0 => 0
  | d + 1 => if gv_ty mb n (gv_od mb n d) = 2 then gv_ol mb n d else gv_nw mb n d
theorem gv_ty_3 (mb n k : Nat) : gv_ty mb n k < 3 := by
  unfold gv_ty; split; omega; split <;> omega
theorem gv_od_lt : ∀ mb, mb < 4 → ∀ n, n < 9 → ∀ p, p < n → gv_od mb n p < n := by decide +kernel
theorem gv_od_inj : ∀ mb, mb < 4 → ∀ n, n < 9 → ∀ p, p < n → ∀ s, s < n → gv_od mb n p = gv_od mb n s → p = s := by decide +kernel
theorem gv_pa_lt : ∀ mb, mb < 4 → ∀ n, n < 9 → ∀ k, k < n → gv_pa mb n k < n ∧ gv_na mb n k < n := by decide +kernel
/-- what a frame looks at isn't coded at its place or later -/
theorem gv_pa_ne1 : ∀ mb, mb < 4 → ∀ n, n < 9 → ∀ p, p < n → ∀ s, s < p + 1 → gv_ty mb n (gv_od mb n s) = 0 ∨ gv_pa mb n (gv_od mb n s) ≠ gv_od mb n p := by decide +kernel
theorem gv_pa_ne2 : ∀ mb, mb < 4 → ∀ n, n < 9 → ∀ p, p < n → ∀ s, s < p + 1 → gv_ty mb n (gv_od mb n s) ≠ 2 ∨ gv_na mb n (gv_od mb n s) ≠ gv_od mb n p := by decide +kernel
theorem gv_pa_ne (mb : Nat) (hm : mb < 4) (n : Nat) (hn : n < 9) (p : Nat) (hp : p < n) (s : Nat) (hs : s ≤ p) : (gv_ty mb n (gv_od mb n s) ≠ 0 → gv_pa mb n (gv_od mb n s) ≠ gv_od mb n p) ∧ (gv_ty mb n (gv_od mb n s) = 2 → gv_na mb n (gv_od mb n s) ≠ gv_od mb n p) :=
  ⟨fun z => (gv_pa_ne1 mb hm n hn p hp s (by omega)).resolve_left z, fun z => (gv_pa_ne2 mb hm n hn p hp s (by omega)).resolve_left (fun y => y z)⟩
def gv_in (mb n d f : Nat) : Bool := (List.range d).any (fun p => gv_od mb n p == f)
theorem gv_in_e {mb n d f : Nat} (h : gv_in mb n d f = true) : ∃ p, p < d ∧ gv_od mb n p = f := by
  unfold gv_in at h
  rw [List.any_eq_true] at h
  obtain ⟨p, hp, e⟩ := h
  exact ⟨p, List.mem_range.mp hp, by simpa using e⟩
theorem gv_an_B1 : ∀ mb, mb < 4 → ∀ n, n < 9 → ∀ d, d < n → gv_ty mb n (gv_od mb n d) = 2 → gv_ol mb n d = gv_pa mb n (gv_od mb n d) ∧ gv_nw mb n d = gv_na mb n (gv_od mb n d) := by decide +kernel
theorem gv_an_B2 : ∀ mb, mb < 4 → ∀ n, n < 9 → ∀ d, d < n → gv_ty mb n (gv_od mb n d) = 2 → gv_in mb n d (gv_pa mb n (gv_od mb n d)) = true ∧ gv_in mb n d (gv_na mb n (gv_od mb n d)) = true := by decide +kernel
theorem gv_an_B (mb : Nat) (hm : mb < 4) (n : Nat) (hn : n < 9) (d : Nat) (hd : d < n) (h : gv_ty mb n (gv_od mb n d) = 2) : gv_ol mb n d = gv_pa mb n (gv_od mb n d) ∧ gv_nw mb n d = gv_na mb n (gv_od mb n d) ∧ gv_in mb n d (gv_pa mb n (gv_od mb n d)) = true ∧ gv_in mb n d (gv_na mb n (gv_od mb n d)) = true :=
  ⟨(gv_an_B1 mb hm n hn d hd h).1, (gv_an_B1 mb hm n hn d hd h).2, (gv_an_B2 mb hm n hn d hd h).1, (gv_an_B2 mb hm n hn d hd h).2⟩
theorem gv_an_P : ∀ mb, mb < 4 → ∀ n, n < 9 → ∀ d, d < n → gv_ty mb n (gv_od mb n d) = 1 → gv_nw mb n d = gv_pa mb n (gv_od mb n d) ∧ gv_in mb n d (gv_pa mb n (gv_od mb n d)) = true := by decide +kernel
theorem gv_an_lt : ∀ mb, mb < 4 → ∀ n, n < 9 → ∀ d, d ≤ n → gv_nw mb n d < 8 ∧ gv_ol mb n d < 8 := by decide +kernel
/-- the next anchor, found by its neighbours -/
theorem gv_nx_e {mb n a : Nat} (h2 : gv_ty mb n a ≠ 2) : ∀ d k, k ≤ a → a < k + d → (∀ j, k ≤ j → j < a → gv_ty mb n j = 2) → gv_nx mb n d k = a
  | 0, k, h, h', _ => by omega
  | d + 1, k, h, h', hB => by
    show (if gv_ty mb n k = 2 then gv_nx mb n d (k + 1) else k) = a
    by_cases e : k = a
    · subst e; rw [if_neg h2]
    · rw [if_pos (hB k (by omega) (by omega))]
      exact gv_nx_e h2 d (k + 1) (by omega) (by omega) (fun j h1 h3 => hB j (by omega) h3)
theorem gv_na_e {mb n a k : Nat} (h2 : gv_ty mb n a ≠ 2) (hk : k < a) (ha : a < n) (hB : ∀ j, k < j → j < a → gv_ty mb n j = 2) : gv_na mb n k = a :=
  gv_nx_e h2 _ _ (by omega) (by omega) (fun j h1 h3 => hB j (by omega) h3)
theorem gv_ty_l {mb n : Nat} : gv_ty mb n (n - 1) ≠ 2 := by
  unfold gv_ty
  by_cases h : n - 1 = 0
  · rw [if_pos h]; omega
  · rw [if_neg h, if_pos (Or.inr rfl)]; omega
end
section
/-! the bit stream: what is written is read -/
def gv_rd (st : Nat → Int32) (p : Nat) : Nat → Nat
  | 0 => 0
  | w + 1 => gv_rd st p w * 2 + (if st (p + w) = 0 then 0 else 1)
theorem gv_rd_c {st st' : Nat → Int32} {p : Nat} : ∀ w, (∀ j, p ≤ j → j < p + w → st j = st' j) → gv_rd st p w = gv_rd st' p w
  | 0, _ => rfl
  | w + 1, h => by
    show gv_rd st p w * 2 + (if st (p + w) = 0 then 0 else 1) = gv_rd st' p w * 2 + (if st' (p + w) = 0 then 0 else 1)
    rw [gv_rd_c w (fun j h1 h2 => h j h1 (by omega)), h (p + w) (by omega) (by omega)]
theorem gv_rd_lt (st : Nat → Int32) (p : Nat) : ∀ w, gv_rd st p w < 2 ^ w
  | 0 => by show 0 < 1; omega
  | w + 1 => by
    have := gv_rd_lt st p w
    show gv_rd st p w * 2 + (if st (p + w) = 0 then 0 else 1) < 2 ^ (w + 1)
    rw [Nat.pow_succ]
    split <;> omega
/-- the stream with the w bits of v written at p -/
def gv_ws (st : Nat → Int32) (p v w : Nat) : Nat → Nat → Int32 := gv_wr st (fun i => p + i) (fun i => nI (v / 2 ^ (w - 1 - i) % 2))
theorem gv_ws_m {st : Nat → Int32} {p v w k j : Nat} (h : j < p ∨ p + k ≤ j) : gv_ws st p v w k j = st j := gv_wr_m k (fun i hi => by omega)
theorem gv_ws_h {st : Nat → Int32} {p v w k i : Nat} (h : i < k) : gv_ws st p v w k (p + i) = nI (v / 2 ^ (w - 1 - i) % 2) := gv_wr_h (g := fun i => p + i) k (fun j _ e => by omega) h
theorem gv_rd_w {st : Nat → Int32} {p v w : Nat} (hv : v < 2 ^ w) : ∀ k, k ≤ w → gv_rd (gv_ws st p v w w) p k = v / 2 ^ (w - k)
  | 0, _ => by show 0 = _; rw [Nat.sub_zero, Nat.div_eq_of_lt hv]
  | k + 1, h => by
    show gv_rd (gv_ws st p v w w) p k * 2 + (if gv_ws st p v w w (p + k) = 0 then 0 else 1) = _
    rw [gv_rd_w hv k (by omega), gv_ws_h (by omega)]
    have e : w - k = (w - 1 - k) + 1 := by omega
    have e2 : w - (k + 1) = w - 1 - k := by omega
    rw [e, e2, Nat.pow_succ, ← Nat.div_div_eq_div_mul]
    generalize v / 2 ^ (w - 1 - k) = z
    have hz : (nI (z % 2) = 0) ↔ z % 2 = 0 := by rw [← nI_0]; exact nI_eq (by omega) (by omega)
    by_cases c : z % 2 = 0
    · rw [if_pos (hz.mpr c)]; omega
    · rw [if_neg (fun q => c (hz.mp q))]; omega
theorem gv_rd_ws {st : Nat → Int32} {p v w : Nat} (hv : v < 2 ^ w) : gv_rd (gv_ws st p v w w) p w = v := by
  rw [gv_rd_w hv w (by omega), Nat.sub_self, Nat.pow_zero, Nat.div_one]
theorem gv_bit {v k : Nat} (hv : v < 2 ^ 31) (hk : k < 32) : (nI v >>> (nI k &&& 31)) &&& 1 = nI (v / 2 ^ k % 2) := by
  rw [pk_shrN hv _ k (s_l k hk), pk_andN (Nat.lt_of_le_of_lt (Nat.div_le_self _ _) (by omega)) 1 (by decide)]
/-- the best vector's number -/
def gv_bi (C L : Nat → Int32) : Nat → Nat
  | 0 => 0
  | i + 1 => if i = 0 then 0 else if C i < C (gv_bi C L i) ∨ (C i = C (gv_bi C L i) ∧ L i < L (gv_bi C L i)) then i else gv_bi C L i
theorem gv_bi_lt (C L : Nat → Int32) : ∀ i, 0 < i → gv_bi C L i < i
  | 0, h => by omega
  | i + 1, _ => by
    show (if i = 0 then 0 else if C i < C (gv_bi C L i) ∨ (C i = C (gv_bi C L i) ∧ L i < L (gv_bi C L i)) then i else gv_bi C L i) < i + 1
    by_cases h : i = 0
    · rw [if_pos h]; omega
    · have := gv_bi_lt C L i (by omega)
      rw [if_neg h]
      split <;> omega
theorem gv_bi_t {C L : Nat → Int32} {i : Nat} (h : i ≠ 0) (c : C i < C (gv_bi C L i) ∨ (C i = C (gv_bi C L i) ∧ L i < L (gv_bi C L i))) : gv_bi C L (i + 1) = i := by
  show (if i = 0 then 0 else _) = _
  rw [if_neg h, if_pos c]
theorem gv_bi_f {C L : Nat → Int32} {i : Nat} (h : i ≠ 0) (c : ¬ (C i < C (gv_bi C L i) ∨ (C i = C (gv_bi C L i) ∧ L i < L (gv_bi C L i)))) : gv_bi C L (i + 1) = gv_bi C L i := by
  show (if i = 0 then 0 else _) = _
  rw [if_neg h, if_neg c]
theorem gv_bi_1 {C L : Nat → Int32} : gv_bi C L 1 = 0 := rfl
def gv_vx (r i : Nat) : Int32 := nI (i % (2 * r + 1)) - nI r
def gv_vy (r i : Nat) : Int32 := nI (i / (2 * r + 1)) - nI r
def gv_ln (r i : Nat) : Int32 := gv_ab (gv_vx r i) + gv_ab (gv_vy r i)
def gv_sc (inp R : Nat → Int32) (r s f b i : Nat) : Int32 := gv_ct inp f b (gv_ft R s b (gv_vx r i) (gv_vy r i))
/-- the number of the best vector in reference s -/
def gv_se (inp R : Nat → Int32) (r s f b : Nat) : Nat := gv_bi (gv_sc inp R r s f b) (gv_ln r) ((2 * r + 1) * (2 * r + 1))
theorem gv_se_lt (inp R : Nat → Int32) (r s f b : Nat) : gv_se inp R r s f b < (2 * r + 1) * (2 * r + 1) := gv_bi_lt _ _ _ (Nat.mul_pos (by omega) (by omega))
theorem gv_v_b : ∀ r, r < 3 → ∀ i, i < (2 * r + 1) * (2 * r + 1) → (-2 ≤ (gv_vx r i).toInt ∧ (gv_vx r i).toInt ≤ 2) ∧ (-2 ≤ (gv_vy r i).toInt ∧ (gv_vy r i).toInt ≤ 2) := by decide +kernel
/-- the best vectors, forward and backward, used or not -/
def gv_vu (inp R : Nat → Int32) (r f b past next k : Nat) : Int32 :=
  if k = 0 then gv_vx r (gv_se inp R r past f b) else if k = 1 then gv_vy r (gv_se inp R r past f b)
  else if k = 2 then gv_vx r (gv_se inp R r next f b) else gv_vy r (gv_se inp R r next f b)
def gv_c1 (inp R : Nat → Int32) (r f b past : Nat) : Int32 := gv_sc inp R r past f b (gv_se inp R r past f b)
def gv_c3 (inp R : Nat → Int32) (r f b past next : Nat) : Int32 := gv_ct inp f b (gv_pr R b 3 (gv_vu inp R r f b past next) past next)
def gv_mo (inp R : Nat → Int32) (r ty f b past next : Nat) : Nat :=
  if ty = 0 then 0 else if ty = 1 then 1
  else if gv_c1 inp R r f b past ≤ gv_c1 inp R r f b next ∧ gv_c1 inp R r f b past ≤ gv_c3 inp R r f b past next then 1
  else if gv_c1 inp R r f b next ≤ gv_c3 inp R r f b past next then 2 else 3
def gv_vv (inp R : Nat → Int32) (r m f b past next k : Nat) : Int32 :=
  if k < 2 then (if m = 1 ∨ m = 3 then gv_vu inp R r f b past next k else 0) else (if m = 2 ∨ m = 3 then gv_vu inp R r f b past next k else 0)
theorem gv_mo_4 (inp R : Nat → Int32) (r ty f b past next : Nat) : gv_mo inp R r ty f b past next < 4 := by
  unfold gv_mo; split; omega; split; omega; split; omega; split <;> omega
theorem gv_mo_0 {inp R : Nat → Int32} {r ty f b past next : Nat} (h : ty = 0) : gv_mo inp R r ty f b past next = 0 := if_pos h
theorem gv_mo_1 {inp R : Nat → Int32} {r ty f b past next : Nat} (h : ty = 1) : gv_mo inp R r ty f b past next = 1 := by
  unfold gv_mo; rw [if_neg (by omega), if_pos h]
theorem gv_mo_2 {inp R : Nat → Int32} {r ty f b past next : Nat} (h : ty = 2) : gv_mo inp R r ty f b past next = if gv_c1 inp R r f b past ≤ gv_c1 inp R r f b next ∧ gv_c1 inp R r f b past ≤ gv_c3 inp R r f b past next then 1
  else if gv_c1 inp R r f b next ≤ gv_c3 inp R r f b past next then 2 else 3 := by
  unfold gv_mo; rw [if_neg (by omega), if_neg (by omega)]
theorem gv_vu_b {inp R : Nat → Int32} {r : Nat} (hr : r < 3) (f b past next k : Nat) : -2 ≤ (gv_vu inp R r f b past next k).toInt ∧ (gv_vu inp R r f b past next k).toInt ≤ 2 := by
  have a := gv_v_b r hr _ (gv_se_lt inp R r past f b)
  have c := gv_v_b r hr _ (gv_se_lt inp R r next f b)
  unfold gv_vu
  split; exact a.1
  split; exact a.2
  split; exact c.1
  exact c.2
theorem gv_vv_b {inp R : Nat → Int32} {r : Nat} (hr : r < 3) (m f b past next k : Nat) : -2 ≤ (gv_vv inp R r m f b past next k).toInt ∧ (gv_vv inp R r m f b past next k).toInt ≤ 2 := by
  have a := gv_vu_b (inp := inp) (R := R) hr f b past next k
  unfold gv_vv
  split <;> split <;> first | exact a | (rw [gv_i0]; omega)
theorem gv_vv_f {inp R : Nat → Int32} {r m f b past next k : Nat} (hk : k < 2) (h : m = 1 ∨ m = 3) : gv_vv inp R r m f b past next k = gv_vu inp R r f b past next k := by
  unfold gv_vv; rw [if_pos hk, if_pos h]
theorem gv_vv_b2 {inp R : Nat → Int32} {r m f b past next k : Nat} (hk : ¬ k < 2) (h : m = 2 ∨ m = 3) : gv_vv inp R r m f b past next k = gv_vu inp R r f b past next k := by
  unfold gv_vv; rw [if_neg hk, if_pos h]
theorem gv_vv_f0 {inp R : Nat → Int32} {r m f b past next k : Nat} (hk : k < 2) (h : ¬ (m = 1 ∨ m = 3)) : gv_vv inp R r m f b past next k = 0 := by
  unfold gv_vv; rw [if_pos hk, if_neg h]
theorem gv_vv_b0 {inp R : Nat → Int32} {r m f b past next k : Nat} (hk : ¬ k < 2) (h : ¬ (m = 2 ∨ m = 3)) : gv_vv inp R r m f b past next k = 0 := by
  unfold gv_vv; rw [if_neg hk, if_neg h]
theorem gv_vv_pr {inp R : Nat → Int32} {r m f b past next : Nat} (hm : m < 4) (t : Nat) : gv_pr R b m (gv_vv inp R r m f b past next) past next t = gv_pr R b m (gv_vu inp R r f b past next) past next t := by
  unfold gv_pr
  by_cases m0 : m = 0
  · rw [if_pos m0, if_pos m0]
  rw [if_neg m0, if_neg m0]
  by_cases m1 : m = 1
  · rw [if_pos m1, if_pos m1, gv_vv_f (by omega) (Or.inl m1), gv_vv_f (by omega) (Or.inl m1)]
  rw [if_neg m1, if_neg m1]
  by_cases m2 : m = 2
  · rw [if_pos m2, if_pos m2, gv_vv_b2 (by omega) (Or.inl m2), gv_vv_b2 (by omega) (Or.inl m2)]
  rw [if_neg m2, if_neg m2]
  have m3 : m = 3 := by omega
  rw [gv_vv_f (by omega) (Or.inr m3), gv_vv_f (by omega) (Or.inr m3), gv_vv_b2 (by omega) (Or.inr m3), gv_vv_b2 (by omega) (Or.inr m3)]
theorem gv_sc_b {inp R : Nat → Int32} (hi : gv_P inp) (hR : gv_P R) (r s f b i : Nat) : 0 ≤ (gv_sc inp R r s f b i).toInt ∧ (gv_sc inp R r s f b i).toInt ≤ 4080 :=
  gv_ct_b f b hi (fun t _ => gv_ft_p hR _ _ _ _ _)
/-- the pixels of a coded block -/
def gv_pp (R : Nat → Int32) (inp : Nat → Int32) (r ty f b past next : Nat) (t : Nat) : Int32 := gv_pr R b (gv_mo inp R r ty f b past next) (gv_vu inp R r f b past next) past next t
theorem gv_pp_p {inp R : Nat → Int32} (h : gv_P R) (r ty f b past next t : Nat) : gv_px (gv_pp R inp r ty f b past next t) := gv_pr_p h _ _ _ _ _ _
def gv_ll (R : Nat → Int32) (inp : Nat → Int32) (q r ty f b past next : Nat) (t : Nat) : Int32 := gv_lv inp f b q (gv_pp R inp r ty f b past next) t
theorem gv_ll_b {inp R : Nat → Int32} {q : Nat} (hi : gv_P inp) (hR : gv_P R) (hq : 0 < q) (hq2 : q ≤ 64) (r ty f b past next : Nat) {t : Nat} (ht : t < 16) : -4080 ≤ (gv_ll R inp q r ty f b past next t).toInt ∧ (gv_ll R inp q r ty f b past next t).toInt ≤ 4080 :=
  gv_lv_b hi (fun t _ => gv_pp_p hR r ty f b past next t) hq hq2 ht
/-- the picture behind the coding of a block -/
def gv_nb (R inp : Nat → Int32) (q r ty f b past next : Nat) : Nat → Int32 := gv_wr R (fun t => f * 64 + gv_id b t) (gv_rb (gv_pp R inp r ty f b past next) (gv_ll R inp q r ty f b past next) q) 16
theorem gv_nb_p {inp R : Nat → Int32} (h : gv_P R) (q r ty f b past next : Nat) : gv_P (gv_nb R inp q r ty f b past next) := gv_P_w h 16 (fun _ _ => gv_rb_p _ _ _ _)
/-- the vectors' array behind the coding of a block: four places -/
def gv_w4 (a : Nat → Int32) (k : Nat) (V : Nat → Int32) : Nat → Int32 := gv_wr a (fun c => k * 4 + c) V 4
theorem gv_w4_c {a V W : Nat → Int32} {k : Nat} (h : ∀ c, c < 4 → V c = W c) : gv_w4 a k V = gv_w4 a k W := gv_wr_c 4 (fun _ _ => rfl) h
theorem gv_w4_u {a V : Nat → Int32} {k c : Nat} (hc : c < 4) (x : Int32) : upd (gv_w4 a k V) (k * 4 + c) x = gv_w4 a k (fun i => if i = c then x else V i) := by
  funext j
  by_cases e : ∃ i, i < 4 ∧ j = k * 4 + i
  · obtain ⟨i, hi, rfl⟩ := e
    have h2 : ∀ W : Nat → Int32, gv_w4 a k W (k * 4 + i) = W i := fun W => gv_wr_h (g := fun c => k * 4 + c) 4 (fun j _ e => by omega) hi
    rw [h2]
    by_cases z : i = c
    · subst z; rw [pk_us, if_pos rfl]
    · rw [pk_un (by omega), h2, if_neg z]
  · have h2 : ∀ W : Nat → Int32, gv_w4 a k W j = a j := fun W => gv_wr_m 4 (fun i hi z => e ⟨i, hi, z⟩)
    rw [h2, pk_un (fun z => e ⟨c, hc, z⟩), h2]
end
section
/-! the records of the stream, and what they say of the pictures -/
def gv_bs (p b : Nat) : Nat := 899 * p + 11 + 222 * b
def gv_sl (st : Nat → Int32) (B k : Nat) : Int32 := nI (gv_rd st (B + 14 + 13 * k) 13) - 4096
def gv_sv (st : Nat → Int32) (B c : Nat) : Int32 := nI (gv_rd st (B + 2 + 3 * c) 3) - 2
def gv_sq (st : Nat → Int32) (B : Nat) : Nat := gv_rd st B 2
theorem gv_sq_4 (st : Nat → Int32) (B : Nat) : gv_sq st B < 4 := gv_rd_lt st B 2
theorem gv_sq_c {st st' : Nat → Int32} {B : Nat} (h : ∀ j, j < B + 222 → st j = st' j) : gv_sq st B = gv_sq st' B := gv_rd_c 2 (fun j _ h2 => h j (by omega))
theorem gv_sv_c {st st' : Nat → Int32} {B c : Nat} (hc : c < 4) (h : ∀ j, j < B + 222 → st j = st' j) : gv_sv st B c = gv_sv st' B c := by
  unfold gv_sv; rw [gv_rd_c 3 (fun j _ h2 => h j (by omega))]
theorem gv_sl_c {st st' : Nat → Int32} {B k : Nat} (hk : k < 16) (h : ∀ j, j < B + 222 → st j = st' j) : gv_sl st B k = gv_sl st' B k := by
  unfold gv_sl; rw [gv_rd_c 13 (fun j _ h2 => h j (by omega))]
def gv_HD (q mb n : Nat) (st : Nat → Int32) (p : Nat) : Prop :=
  gv_rd st (899 * p) 3 = gv_od mb n p ∧ gv_rd st (899 * p + 3) 2 = gv_ty mb n (gv_od mb n p) ∧ gv_rd st (899 * p + 5) 6 = q - 1
theorem gv_HD_c {q mb n p : Nat} {st st' : Nat → Int32} (h : ∀ j, j < 899 * p + 11 → st j = st' j) (H : gv_HD q mb n st p) : gv_HD q mb n st' p := by
  unfold gv_HD at H ⊢
  rw [gv_rd_c 3 (fun j _ h2 => (h j (by omega)).symm), gv_rd_c (st := st') (st' := st) 2 (fun j _ h2 => (h j (by omega)).symm), gv_rd_c (st := st') (st' := st) 6 (fun j _ h2 => (h j (by omega)).symm)]
  exact H
def gv_CB (q mb n : Nat) (st R : Nat → Int32) (p b : Nat) : Prop :=
  (gv_ty mb n (gv_od mb n p) = 0 → gv_sq st (gv_bs p b) = 0) ∧ (gv_ty mb n (gv_od mb n p) = 1 → gv_sq st (gv_bs p b) = 1) ∧
  ∀ t, t < 16 → R (gv_od mb n p * 64 + gv_id b t) = gv_rb (gv_pr R b (gv_sq st (gv_bs p b)) (gv_sv st (gv_bs p b)) (gv_pa mb n (gv_od mb n p)) (gv_na mb n (gv_od mb n p))) (gv_sl st (gv_bs p b)) q t
theorem gv_CB_st {q mb n p b : Nat} {st st' R : Nat → Int32} (h : ∀ j, j < gv_bs p b + 222 → st j = st' j) (H : gv_CB q mb n st R p b) : gv_CB q mb n st' R p b := by
  obtain ⟨H1, H2, H3⟩ := H
  unfold gv_CB
  rw [← gv_sq_c h]
  refine ⟨H1, H2, fun t ht => ?_⟩
  rw [H3 t ht]
  exact gv_rb_c q (gv_pr_c (fun c hc => gv_sv_c hc h) (fun _ _ => ⟨rfl, fun _ _ => rfl⟩) (fun _ _ => ⟨rfl, fun _ _ => rfl⟩) t) (fun s hs => gv_sl_c hs h)
/-- the mode says which frames are looked at -/
theorem gv_use {q mb n p b : Nat} {st R : Nat → Int32} (H : gv_CB q mb n st R p b) : (gv_sq st (gv_bs p b) ≠ 0 → gv_ty mb n (gv_od mb n p) ≠ 0) ∧ (gv_sq st (gv_bs p b) ≠ 0 → gv_sq st (gv_bs p b) ≠ 1 → gv_ty mb n (gv_od mb n p) = 2) := by
  obtain ⟨H1, H2, -⟩ := H
  have := gv_ty_3 mb n (gv_od mb n p)
  refine ⟨fun z e => z (H1 e), fun z z1 => ?_⟩
  have a : gv_ty mb n (gv_od mb n p) ≠ 0 := fun e => z (H1 e)
  have c : gv_ty mb n (gv_od mb n p) ≠ 1 := fun e => z1 (H2 e)
  omega
/-- the picture with block b of frame f written -/
def gv_wb (R : Nat → Int32) (f b : Nat) (v : Nat → Int32) : Nat → Int32 := gv_wr R (fun t => f * 64 + gv_id b t) v 16
theorem gv_wb_h {R v : Nat → Int32} {f b t : Nat} (hb : b < 4) (ht : t < 16) : gv_wb R f b v (f * 64 + gv_id b t) = v t :=
  gv_wr_h (g := fun t => f * 64 + gv_id b t) 16 (fun j hj e => gv_id_inj b hb t ht j hj (by omega)) ht
theorem gv_wb_f {R v : Nat → Int32} {f g b j : Nat} (hb : b < 4) (hj : j < 64) (h : g ≠ f) : gv_wb R f b v (g * 64 + j) = R (g * 64 + j) :=
  gv_wr_m 16 (fun i hi => by have := gv_id_lt b hb i hi; omega)
theorem gv_wb_b {R v : Nat → Int32} {f b c t : Nat} (hb : b < 4) (hc : c < 4) (ht : t < 16) (h : c ≠ b) : gv_wb R f b v (f * 64 + gv_id c t) = R (f * 64 + gv_id c t) :=
  gv_wr_m 16 (fun i hi e => h (gv_id_blk c hc b hb t ht i hi (by omega)))
theorem gv_wb_p {R v : Nat → Int32} {f b : Nat} (h : gv_P R) (hv : ∀ t, t < 16 → gv_px (v t)) : gv_P (gv_wb R f b v) := gv_P_w h 16 hv
/-- a later block's pixels leave an earlier record true -/
theorem gv_CB_R {q mb n p b P B : Nat} {st R v : Nat → Int32} (hm : mb < 4) (hn : n < 9) (hP : P < n) (hp : p ≤ P) (hb : b < 4) (hB : B < 4) (hne : p < P ∨ b ≠ B)
    (H : gv_CB q mb n st R p b) : gv_CB q mb n st (gv_wb R (gv_od mb n P) B v) p b := by
  have U := gv_use H
  obtain ⟨H1, H2, H3⟩ := H
  have N := gv_pa_ne mb hm n hn P hP p hp
  refine ⟨H1, H2, fun t ht => ?_⟩
  have e : gv_wb R (gv_od mb n P) B v (gv_od mb n p * 64 + gv_id b t) = R (gv_od mb n p * 64 + gv_id b t) := by
    by_cases c : p = P
    · subst c; exact gv_wb_b hB hb ht (by omega)
    · exact gv_wb_f hB (gv_id_lt b hb t ht) (fun e => c (gv_od_inj mb hm n hn p (by omega) P hP e))
  rw [e, H3 t ht]
  refine gv_rb_c q (gv_pr_c (fun _ _ => rfl) (fun m0 _ => ⟨rfl, fun j hj => ?_⟩) (fun m0 m1 => ⟨rfl, fun j hj => ?_⟩) t) (fun _ _ => rfl)
  · exact (gv_wb_f hB hj (N.1 (U.1 m0))).symm
  · exact (gv_wb_f hB hj (N.2 (U.2 m0 m1))).symm
/-- the block just written -/
theorem gv_CB_new {q mb n P B m : Nat} {st R V L : Nat → Int32} (hm : mb < 4) (hn : n < 9) (hP : P < n) (hB : B < 4)
    (h0 : gv_ty mb n (gv_od mb n P) = 0 → m = 0) (h1 : gv_ty mb n (gv_od mb n P) = 1 → m = 1)
    (em : gv_sq st (gv_bs P B) = m) (eV : ∀ c, c < 4 → gv_sv st (gv_bs P B) c = V c) (eL : ∀ k, k < 16 → gv_sl st (gv_bs P B) k = L k) :
    gv_CB q mb n st (gv_wb R (gv_od mb n P) B (gv_rb (gv_pr R B m V (gv_pa mb n (gv_od mb n P)) (gv_na mb n (gv_od mb n P))) L q)) P B := by
  subst em
  have N := gv_pa_ne mb hm n hn P hP P (Nat.le_refl _)
  have T := gv_ty_3 mb n (gv_od mb n P)
  refine ⟨h0, h1, fun t ht => ?_⟩
  rw [gv_wb_h hB ht]
  refine gv_rb_c q (gv_pr_c (fun c hc => (eV c hc).symm) (fun m0 _ => ⟨rfl, fun j hj => ?_⟩) (fun m0 m1 => ⟨rfl, fun j hj => ?_⟩) t) (fun s hs => (eL s hs).symm)
  · exact (gv_wb_f hB hj (N.1 (fun e => m0 (h0 e)))).symm
  · refine (gv_wb_f hB hj (N.2 ?_)).symm
    have a : gv_ty mb n (gv_od mb n P) ≠ 0 := fun e => m0 (h0 e)
    have c : gv_ty mb n (gv_od mb n P) ≠ 1 := fun e => m1 (h1 e)
    omega
/-- all records before block b of position p -/
def gv_J (q mb n : Nat) (st R : Nat → Int32) (p b : Nat) : Prop :=
  (∀ s, s < p → gv_HD q mb n st s) ∧ ∀ s c, c < 4 → (s < p ∨ (s = p ∧ c < b)) → gv_CB q mb n st R s c
theorem gv_J_0 (q mb n : Nat) (st R : Nat → Int32) : gv_J q mb n st R 0 0 := ⟨fun s hs => by omega, fun s c _ h => by omega⟩
theorem gv_J_h {q mb n p : Nat} {st st' R : Nat → Int32} (h : ∀ j, j < 899 * p → st j = st' j) (H : gv_J q mb n st R p 0) : gv_J q mb n st' R p 0 := by
  obtain ⟨H1, H3⟩ := H
  refine ⟨fun s hs => gv_HD_c (fun j hj => h j (by omega)) (H1 s hs), fun s c hc hs => gv_CB_st (fun j hj => ?_) (H3 s c hc hs)⟩
  unfold gv_bs at hj
  exact h j (by omega)
theorem gv_J_st {q mb n p b : Nat} {st st' R : Nat → Int32} (h : ∀ j, j < gv_bs p b → st j = st' j) (H : gv_J q mb n st R p b) : gv_J q mb n st' R p b := by
  unfold gv_bs at h
  obtain ⟨H1, H3⟩ := H
  refine ⟨fun s hs => gv_HD_c (fun j hj => h j (by omega)) (H1 s hs), fun s c hc hs => gv_CB_st (fun j hj => ?_) (H3 s c hc hs)⟩
  unfold gv_bs at hj
  exact h j (by omega)
theorem gv_J_n {q mb n p : Nat} {st R : Nat → Int32} (H : gv_J q mb n st R p 4) (h : gv_HD q mb n st p) : gv_J q mb n st R (p + 1) 0 := by
  obtain ⟨H1, H3⟩ := H
  refine ⟨fun s hs => ?_, fun s c hc hs => H3 s c hc (by omega)⟩
  by_cases e : s = p
  · subst e; exact h
  · exact H1 s (by omega)
theorem gv_J_b {q mb n P B m : Nat} {st st' R V L : Nat → Int32} (hm : mb < 4) (hn : n < 9) (hP : P < n) (hB : B < 4)
    (h0 : gv_ty mb n (gv_od mb n P) = 0 → m = 0) (h1 : gv_ty mb n (gv_od mb n P) = 1 → m = 1)
    (em : gv_sq st' (gv_bs P B) = m) (eV : ∀ c, c < 4 → gv_sv st' (gv_bs P B) c = V c) (eL : ∀ k, k < 16 → gv_sl st' (gv_bs P B) k = L k)
    (h : ∀ j, j < gv_bs P B → st j = st' j) (H : gv_J q mb n st R P B) :
    gv_J q mb n st' (gv_wb R (gv_od mb n P) B (gv_rb (gv_pr R B m V (gv_pa mb n (gv_od mb n P)) (gv_na mb n (gv_od mb n P))) L q)) P (B + 1) := by
  obtain ⟨H1, H3⟩ := gv_J_st h H
  refine ⟨H1, fun s c hc hs => ?_⟩
  by_cases e : s = P ∧ c = B
  · obtain ⟨rfl, rfl⟩ := e
    exact gv_CB_new hm hn hP hB h0 h1 em eV eL
  · exact gv_CB_R hm hn hP (by omega) hc hB (by omega) (H3 s c hc (by omega))
/-- the decoder's pictures: the first d frames, and b blocks of the next -/
def gv_D (mb n : Nat) (R D : Nat → Int32) (d b : Nat) : Prop :=
  (∀ p, p < d → ∀ j, j < 64 → D (gv_od mb n p * 64 + j) = R (gv_od mb n p * 64 + j)) ∧
  ∀ c, c < b → ∀ t, t < 16 → D (gv_od mb n d * 64 + gv_id c t) = R (gv_od mb n d * 64 + gv_id c t)
theorem gv_D_n {mb n d : Nat} {R D : Nat → Int32} (H : gv_D mb n R D d 4) : gv_D mb n R D (d + 1) 0 := by
  refine ⟨fun p hp j hj => ?_, fun c hc => by omega⟩
  by_cases e : p = d
  · subst e
    obtain ⟨a, b, c⟩ := gv_id_all j hj
    have := H.2 _ a _ b
    rw [c] at this
    exact this
  · exact H.1 p (by omega) j hj
theorem gv_D_s {q mb n d b past next : Nat} {st R D : Nat → Int32} (hm : mb < 4) (hn : n < 9) (hd : d < n) (hb : b < 4)
    (hC : gv_CB q mb n st R d b) (hpast : past = if gv_ty mb n (gv_od mb n d) = 2 then gv_ol mb n d else gv_nw mb n d) (hnext : next = gv_nw mb n d) (H : gv_D mb n R D d b) :
    gv_D mb n R (gv_wb D (gv_od mb n d) b (gv_rb (gv_pr D b (gv_sq st (gv_bs d b)) (gv_sv st (gv_bs d b)) past next) (gv_sl st (gv_bs d b)) q)) d (b + 1) := by
  have U := gv_use hC
  obtain ⟨-, -, C⟩ := hC
  have T := gv_ty_3 mb n (gv_od mb n d)
  refine ⟨fun p hp j hj => ?_, fun c hc t ht => ?_⟩
  · rw [gv_wb_f hb hj (fun e => by have := gv_od_inj mb hm n hn p (by omega) d hd e; omega)]
    exact H.1 p hp j hj
  by_cases e : c = b
  · subst e
    rw [gv_wb_h hb ht, C t ht]
    refine gv_rb_c q (gv_pr_c (fun _ _ => rfl) (fun m0 m2 => ?_) (fun m0 m1 => ?_) t) (fun _ _ => rfl)
    · have k := U.1 m0
      by_cases t2 : gv_ty mb n (gv_od mb n d) = 2
      · obtain ⟨a1, a2, a3, a4⟩ := gv_an_B mb hm n hn d hd t2
        rw [if_pos t2, a1] at hpast
        subst hpast
        obtain ⟨p, hp, ep⟩ := gv_in_e a3
        refine ⟨rfl, fun j hj => ?_⟩
        rw [← ep]
        exact H.1 p hp j hj
      · obtain ⟨a1, a3⟩ := gv_an_P mb hm n hn d hd (by omega)
        rw [if_neg t2, a1] at hpast
        subst hpast
        obtain ⟨p, hp, ep⟩ := gv_in_e a3
        refine ⟨rfl, fun j hj => ?_⟩
        rw [← ep]
        exact H.1 p hp j hj
    · have t2 := U.2 m0 m1
      obtain ⟨a1, a2, a3, a4⟩ := gv_an_B mb hm n hn d hd t2
      rw [a2] at hnext
      subst hnext
      obtain ⟨p, hp, ep⟩ := gv_in_e a4
      refine ⟨rfl, fun j hj => ?_⟩
      rw [← ep]
      exact H.1 p hp j hj
  · rw [gv_wb_b hb (by omega) ht e]
    exact H.2 c (by omega) t ht
/-- the number of frames given out -/
def gv_OC (mb n d o : Nat) : Prop := o ≤ n ∧ (∀ k, k < o → gv_in mb n d k = true) ∧ (o < n → gv_in mb n d o = false)
theorem gv_in_s (mb n d f : Nat) : gv_in mb n (d + 1) f = (gv_in mb n d f || (gv_od mb n d == f)) := by
  unfold gv_in
  rw [List.range_succ, List.any_append]
  simp
theorem gv_in_0 (mb n f : Nat) : gv_in mb n 0 f = false := rfl
theorem gv_OC_u {mb n d o o' : Nat} (h : gv_OC mb n d o) (h' : gv_OC mb n d o') : o = o' := by
  obtain ⟨a, b, c⟩ := h
  obtain ⟨a', b', c'⟩ := h'
  rcases Nat.lt_trichotomy o o' with z | z | z
  · have := b' o z; rw [c (by omega)] at this; cases this
  · exact z
  · have := b o' z; rw [c' (by omega)] at this; cases this
end
section
/-! the whole coding as a run over blocks -/
abbrev gv_F : Type := Nat → Int32
abbrev gv_Q : Type := gv_F × gv_F × gv_F × gv_F
/-- one block coded: pictures, modes, vectors, counts -/
def gv_blk (inp : gv_F) (q r ty f b past next : Nat) (s : gv_Q) : gv_Q :=
  (gv_nb s.1 inp q r ty f b past next, upd s.2.1 (f * 4 + b) (nI (gv_mo inp s.1 r ty f b past next)),
   gv_w4 s.2.2.1 (f * 4 + b) (gv_vv inp s.1 r (gv_mo inp s.1 r ty f b past next) f b past next), upd s.2.2.2 (f * 4 + b) (gv_nz (gv_ll s.1 inp q r ty f b past next)))
def gv_run (inp : gv_F) (q r mb n : Nat) (s0 : gv_Q) : Nat → gv_Q
  | 0 => s0
  | k + 1 => gv_blk inp q r (gv_ty mb n (gv_od mb n (k / 4))) (gv_od mb n (k / 4)) (k % 4) (gv_pa mb n (gv_od mb n (k / 4))) (gv_na mb n (gv_od mb n (k / 4))) (gv_run inp q r mb n s0 k)
theorem gv_run_s {inp : gv_F} {q r mb n : Nat} {s0 : gv_Q} {p b : Nat} (hb : b < 4) : gv_blk inp q r (gv_ty mb n (gv_od mb n p)) (gv_od mb n p) b (gv_pa mb n (gv_od mb n p)) (gv_na mb n (gv_od mb n p)) (gv_run inp q r mb n s0 (4 * p + b)) = gv_run inp q r mb n s0 (4 * p + b + 1) := by
  show _ = gv_blk inp q r (gv_ty mb n (gv_od mb n ((4 * p + b) / 4))) (gv_od mb n ((4 * p + b) / 4)) ((4 * p + b) % 4) (gv_pa mb n (gv_od mb n ((4 * p + b) / 4))) (gv_na mb n (gv_od mb n ((4 * p + b) / 4))) (gv_run inp q r mb n s0 (4 * p + b))
  rw [show (4 * p + b) / 4 = p by omega, show (4 * p + b) % 4 = b by omega]
theorem gv_run_p {inp : gv_F} {q r mb n : Nat} {s0 : gv_Q} (h : gv_P s0.1) : ∀ k, gv_P (gv_run inp q r mb n s0 k).1
  | 0 => h
  | k + 1 => gv_nb_p (gv_run_p h k) _ _ _ _ _ _ _
theorem gv_nb_e {inp R V L : gv_F} {q r ty f b past next : Nat} (hV : ∀ c, c < 4 → V c = gv_vv inp R r (gv_mo inp R r ty f b past next) f b past next c) (hL : ∀ k, k < 16 → L k = gv_ll R inp q r ty f b past next k) :
    gv_wb R f b (gv_rb (gv_pr R b (gv_mo inp R r ty f b past next) V past next) L q) = gv_nb R inp q r ty f b past next := by
  refine gv_wr_c 16 (fun _ _ => rfl) (fun t ht => gv_rb_c q ?_ hL)
  rw [gv_pr_c hV (fun _ _ => ⟨rfl, fun _ _ => rfl⟩) (fun _ _ => ⟨rfl, fun _ _ => rfl⟩) t, gv_vv_pr (gv_mo_4 _ _ _ _ _ _ _ _)]
  rfl
/-- successive writes at 0, 1, 2 .. -/
def gv_wi (a v : gv_F) : Nat → gv_F := gv_wr a (fun t => t) v
theorem gv_wi_s (a v : gv_F) (n : Nat) : upd (gv_wi a v n) n (v n) = gv_wi a v (n + 1) := rfl
theorem gv_wi_h {a v : gv_F} {n i : Nat} (h : i < n) : gv_wi a v n i = v i := gv_wr_h (g := fun t => t) n (fun _ _ e => e) h
theorem gv_wi_m {a v : gv_F} {n i : Nat} (h : n ≤ i) : gv_wi a v n i = a i := gv_wr_m n (fun _ _ e => by omega)
/-- the texture's numbers -/
def gv_lc (s : Int32) : Nat → Int32
  | 0 => s
  | t + 1 => gv_lc s t * 1664525 + 1013904223
end
section
/-! the relation -/
def gv_L (q r mb n : Nat) (inp rec : gv_F) : Prop := (1 ≤ q ∧ q ≤ 64) ∧ r < 3 ∧ mb < 4 ∧ n < 9 ∧ gv_P inp ∧ gv_P rec
def gv_C (q mb n d o : Nat) (rec dcd typ ord str isd : gv_F) (rp oa na : Int32) : Prop :=
  1 ≤ n ∧ d ≤ n ∧ (∀ k, k < n → typ k = nI (gv_ty mb n k)) ∧ (∀ p, p < n → ord p = nI (gv_od mb n p)) ∧ rp = nI (899 * d) ∧ oa = nI (gv_ol mb n d) ∧ na = nI (gv_nw mb n d) ∧
  gv_J q mb n str rec n 0 ∧ gv_D mb n rec dcd d 0 ∧ gv_OC mb n d o ∧ (∀ k, k < 8 → (isd k = 0 ↔ gv_in mb n d k = false))
def i_Rel (k : Nat) (u : SX) (v : SY) : Prop := ∃ (q r mb n d o : Nat) (ph wp rp oa na yx yy : Int32) (inp rec dcd typ ord mod vcs nzs str isd vct bwd prd res cof lev ypp ypd yzc : gv_F),
  u = (nI q, nI r, nI mb, ph, nI n, nI d, nI o, wp, rp, oa, na, inp, rec, dcd, typ, ord, mod, vcs, nzs, str, isd, vct, bwd, prd, res, cof, lev) ∧
  v = (nI q, nI r, nI mb, nI n, ph, nI d, yx, yy, inp, rec, ord, mod, vcs, nzs, ypp, ypd, yzc) ∧
  gv_L q r mb n inp rec ∧ ((ph = 0 ∧ d = 0 ∧ o = 0) ∨ (ph = 1 ∧ gv_C q mb n d o rec dcd typ ord str isd rp oa na))
end
section
/-! X: the small methods -/
theorem gx_clamp {post : Int32 → Prop} {v lo hi : Int32} (h : post (gv_cp v lo hi)) : wpX_clamp post v lo hi := by
  refine br_c (fun a => br_c (fun b => ?_) (fun b => ?_)) (fun a => ?_)
  · rw [gv_cmi (Int32.not_lt.mpr a) (Int32.not_lt.mpr b)] at h; exact h
  · rw [gv_chi (Int32.not_lt.mpr a) (Int32.not_le.mp b)] at h; exact h
  · rw [gv_clo (Int32.not_le.mp a)] at h; exact h
theorem gx_abs {post : Int32 → Prop} {v : Int32} (h : post (gv_ab v)) : wpX_absolute post v := by
  unfold gv_ab at h
  refine br_c (fun a => ?_) (fun a => ?_)
  · rw [if_neg (Int32.not_lt.mpr a)] at h; exact h
  · rw [if_pos (Int32.not_le.mp a)] at h; exact h
theorem gx_below {post : Int32 → Prop} {v : Int32} {c : Nat} (hc : c < 2 ^ 31) (h1 : ∀ j, j < c → v = nI j → post 1) (h0 : (v < 0 ∨ nI c ≤ v) → post 0) : wpX_isBelow post v (nI c) := by
  refine br_c (fun a => h0 (Or.inl a)) (fun a => br_c (fun b => h0 (Or.inr b)) (fun b => ?_))
  rcases pk_ix v hc with z | z | ⟨j, hj, e⟩
  · exact absurd z a
  · exact absurd z b
  · exact h1 j hj e
theorem gx_sgn : ∀ r, r < 4 → ∀ c, c < 4 → (1 : Int32) - (2 * (((42688 : Int32) >>> (((nI r * 4) + nI c) &&& 31)) &&& 1)) = gv_h r c := by decide +kernel
theorem gx_sign {post : Int32 → Prop} {r c : Nat} (hr : r < 4) (hc : c < 4) (h : post (gv_h r c)) : wpX_signOfH post (nI r) (nI c) := by
  intro y ey
  rw [ey, gx_sgn r hr c hc]
  exact h
theorem gx_plc : ∀ b, b < 4 → ∀ t, t < 16 → ((((nI b / 2) * 4) + (nI t / 4)) * 8) + (((nI b - nI b / 2 * 2) * 4) + (nI t - nI t / 4 * 4)) = nI (gv_id b t) := by decide +kernel
theorem gx_place {post : Int32 → Prop} {f b t : Nat} (hb : b < 4) (ht : t < 16) (h : post (nI (f * 64 + gv_id b t))) : wpX_placeInFrames post (nI f) (nI b) (nI t) := by
  refine ⟨by decide, by decide, nm_e ⟨by decide, by decide, nm_e ?_⟩⟩
  rw [Int32.add_assoc, gx_plc b hb t ht, show (64 : Int32) = nI 64 from rfl, pk_mul, nI_add]
  exact h
theorem gv_pin {f b t : Nat} (hf : f < 8) (hb : b < 4) (ht : t < 16) : f * 64 + gv_id b t < 512 := by
  have := gv_id_lt b hb t ht
  omega
theorem gx_ld {f y x : Nat} : ((nI f * 64) + (nI y * 8)) + nI x = nI (f * 64 + y * 8 + x) := by
  rw [show (64 : Int32) = nI 64 from rfl, show (8 : Int32) = nI 8 from rfl, pk_mul, pk_mul, nI_add, nI_add]
theorem gx_4 {i j : Nat} : (nI i * 4) + nI j = nI (i * 4 + j) := by
  rw [show (4 : Int32) = nI 4 from rfl, pk_mul, nI_add]
theorem gx_lft : ∀ b, b < 4 → (nI b - nI b / 2 * 2) * 4 = nI (4 * (b % 2)) ∧ (nI b / 2) * 4 = nI (4 * (b / 2)) := by decide +kernel
section
variable {qu rg bf ph fc dc oc wp rp oa na : Int32} {inp rec dcd typ ord mod vcs nzs str isd vct bwd prd res cof lev : Nat → Int32}
theorem gx_can {post : Int32 → Prop} {n : Nat} (hn : n < 2 ^ 31) (h1 : ph = 0 → n < 8 → post 1) (h0 : (ph ≠ 0 ∨ 8 ≤ n) → post 0) : wpX_canAppend post (qu, rg, bf, ph, nI n, dc, oc, wp, rp, oa, na, inp, rec, dcd, typ, ord, mod, vcs, nzs, str, isd, vct, bwd, prd, res, cof, lev) := by
  refine br_c (fun a => ?_) (fun a => h0 (Or.inl a))
  exact pk_le 8 n (fun b => h0 (Or.inr b)) (fun b => h1 a b)
theorem gx_cost_l {post : Int32 → Prop} {f b : Nat} {P : gv_F} (hf : f < 8) (hb : b < 4) (hP : ∀ t, t < 16 → prd t = P t) (h : post (gv_ct inp f b P)) :
    ∀ d i n, i + d = 16 → d < n → wX_costOfPrediction_5 post (nI f) (nI b) qu rg bf ph fc dc oc wp rp oa na inp rec dcd typ ord mod vcs nzs str isd vct bwd prd res cof lev n (gv_sm (fun t => gv_ab (inp (f * 64 + gv_id b t) - P t)) i) (nI i) := by
  intro d
  induction d with
  | zero =>
    intro i n hi hn
    obtain ⟨n, rfl⟩ : ∃ m, n = m + 1 := ⟨n - 1, by omega⟩
    obtain rfl : i = 16 := by omega
    exact br_t (by decide) h
  | succ d ih =>
    intro i n hi hn
    obtain ⟨n, rfl⟩ : ∃ m, n = m + 1 := ⟨n - 1, by omega⟩
    refine br_f (nI_ge (b := 16) (by omega) (by decide)) (gx_place hb (by omega) ⟨vp_in_nI (gv_pin hf hb (by omega)) (by decide), vp_in_nI (by omega) (by decide), gx_abs ?_⟩)
    have hpin := gv_pin hf hb (t := i) (by omega)
    rw [nI_clamp (by omega), nI_clamp (by omega), hP i (by omega)]
    refine nm_r (gv_sm_s _ i) (nm_r (nI_1 i) ?_)
    exact ih (i + 1) n (by omega) (by omega)
theorem gx_cost {post : Int32 → Prop} {f b : Nat} {P : gv_F} (hf : f < 8) (hb : b < 4) (hP : ∀ t, t < 16 → prd t = P t) (h : post (gv_ct inp f b P)) : wpX_costOfPrediction post (qu, rg, bf, ph, fc, dc, oc, wp, rp, oa, na, inp, rec, dcd, typ, ord, mod, vcs, nzs, str, isd, vct, bwd, prd, res, cof, lev) (nI f) (nI b) :=
  ⟨17, gx_cost_l hf hb hP h 16 0 17 rfl (by decide)⟩
end
end
section
/-! X: fetchBlock, four prints -/
theorem gx_c7 {post : Int32 → Prop} {v w : Int32} (e : v = w) (h : post (nI (gv_c7 w))) : wpX_clamp post v 0 7 := by
  subst e
  refine gx_clamp ?_
  rw [(gv_c7_e v).1]
  exact h
theorem gv_ft_ij {R : gv_F} {f b i j : Nat} {vx vy : Int32} (hj : j < 4) : gv_ft R f b vx vy (i * 4 + j) = R (f * 64 + gv_c7 (nI (4 * (b / 2) + i) + vy) * 8 + gv_c7 (nI (4 * (b % 2) + j) + vx)) := by
  unfold gv_ft
  rw [show (i * 4 + j) / 4 = i by omega, show (i * 4 + j) % 4 = j by omega]
theorem gv_pin2 {f y x : Nat} (hf : f < 8) (hy : y < 8) (hx : x < 8) : f * 64 + y * 8 + x < 512 := by omega
section
variable {qu rg bf ph fc dc oc wp rp oa na : Int32} {inp rec dcd typ ord mod vcs nzs str isd vct bwd prd res cof lev : Nat → Int32}
variable {f b : Nat} {vx vy : Int32}
theorem gx_f42_recon_prediction {post : SX → Prop} {JJ : Int32 → gv_F → gv_F → gv_F → gv_F → gv_F → gv_F → gv_F → gv_F → gv_F → gv_F → gv_F → gv_F → gv_F → gv_F → gv_F → gv_F →  Prop} (hf : f < 8) {i : Nat} (hi : i < 4)
    (h : JJ (nI (i + 1)) inp rec dcd typ ord mod vcs nzs str isd vct bwd (gv_wi prd (gv_ft rec f b vx vy) ((i + 1) * 4)) res cof lev) :
    ∀ d j n, j + d = 4 → d < n → wX_fetchBlock__recon_prediction_42 post JJ (nI f) vx vy (nI (4 * (b % 2))) (nI (4 * (b / 2))) (nI i) (nI (gv_c7 (nI (4 * (b / 2) + i) + vy))) qu rg bf ph fc dc oc wp rp oa na n (nI j) inp rec dcd typ ord mod vcs nzs str isd vct bwd (gv_wi prd (gv_ft rec f b vx vy) (i * 4 + j)) res cof lev := by
  intro d
  induction d with
  | zero =>
    intro j n hj hn
    obtain ⟨n, rfl⟩ : ∃ m, n = m + 1 := ⟨n - 1, by omega⟩
    obtain rfl : j = 4 := by omega
    rw [Nat.succ_mul] at h
    exact br_t (by decide) (nm_r (nI_1 i) h)
  | succ d ih =>
    intro j n hj hn
    obtain ⟨n, rfl⟩ : ∃ m, n = m + 1 := ⟨n - 1, by omega⟩
    have p1 := gv_pin2 hf (gv_c7_e (nI (4 * (b / 2) + i) + vy)).2 (gv_c7_e (nI (4 * (b % 2) + j) + vx)).2
    refine br_f (nI_ge (b := 4) (by omega) (by decide)) (gx_c7 (w := nI (4 * (b % 2) + j) + vx) (by rw [nI_add]) ⟨?_, ?_, nm_r (e' := gv_wi prd (gv_ft rec f b vx vy) (i * 4 + (j + 1))) ?_ (nm_r (nI_1 j) (ih (j + 1) n (by omega) (by omega)))⟩)
    · rw [gx_ld]; exact vp_in_nI p1 (by decide)
    · rw [gx_4]; exact vp_in_nI (by omega) (by decide)
    · rw [gx_ld, gx_4, nI_clamp (by omega), nI_clamp (by omega), ← gv_ft_ij (R := rec) (f := f) (b := b) (i := i) (j := j) (vx := vx) (vy := vy) (by omega)]
      rfl
theorem gx_f17_recon_prediction {post : SX → Prop} (hf : f < 8) (h : post (qu, rg, bf, ph, fc, dc, oc, wp, rp, oa, na, inp, rec, dcd, typ, ord, mod, vcs, nzs, str, isd, vct, bwd, gv_wi prd (gv_ft rec f b vx vy) 16, res, cof, lev)) :
    ∀ d i n, i + d = 4 → d < n → wX_fetchBlock__recon_prediction_17 post (nI f) vx vy (nI (4 * (b % 2))) (nI (4 * (b / 2))) qu rg bf ph fc dc oc wp rp oa na n (nI i) inp rec dcd typ ord mod vcs nzs str isd vct bwd (gv_wi prd (gv_ft rec f b vx vy) (i * 4)) res cof lev := by
  intro d
  induction d with
  | zero =>
    intro i n hi hn
    obtain ⟨n, rfl⟩ : ∃ m, n = m + 1 := ⟨n - 1, by omega⟩
    obtain rfl : i = 4 := by omega
    exact br_t (by decide) h
  | succ d ih =>
    intro i n hi hn
    obtain ⟨n, rfl⟩ : ∃ m, n = m + 1 := ⟨n - 1, by omega⟩
    exact br_f (nI_ge (b := 4) (by omega) (by decide)) (gx_c7 (w := nI (4 * (b / 2) + i) + vy) (by rw [nI_add]) ⟨5, gx_f42_recon_prediction hf (by omega) (ih (i + 1) n (by omega) (by omega)) 4 0 5 rfl (by decide)⟩)
theorem gx_fetch_recon_prediction {post : SX → Prop} (hf : f < 8) (hb : b < 4) (h : ∀ P : gv_F, (∀ t, t < 16 → P t = gv_ft rec f b vx vy t) → post (qu, rg, bf, ph, fc, dc, oc, wp, rp, oa, na, inp, rec, dcd, typ, ord, mod, vcs, nzs, str, isd, vct, bwd, P, res, cof, lev)) : wpX_fetchBlock__recon_prediction post (qu, rg, bf, ph, fc, dc, oc, wp, rp, oa, na, inp, rec, dcd, typ, ord, mod, vcs, nzs, str, isd, vct, bwd, prd, res, cof, lev) (nI f) (nI b) vx vy :=
  ⟨by decide, nm_r (gx_lft b hb).1 ⟨by decide, nm_r (gx_lft b hb).2 ⟨5, gx_f17_recon_prediction hf (h _ (fun t ht => gv_wi_h ht)) 4 0 5 rfl (by decide)⟩⟩⟩
theorem gx_f42_recon_backward {post : SX → Prop} {JJ : Int32 → gv_F → gv_F → gv_F → gv_F → gv_F → gv_F → gv_F → gv_F → gv_F → gv_F → gv_F → gv_F → gv_F → gv_F → gv_F → gv_F →  Prop} (hf : f < 8) {i : Nat} (hi : i < 4)
    (h : JJ (nI (i + 1)) inp rec dcd typ ord mod vcs nzs str isd vct (gv_wi bwd (gv_ft rec f b vx vy) ((i + 1) * 4)) prd res cof lev) :
    ∀ d j n, j + d = 4 → d < n → wX_fetchBlock__recon_backward_42 post JJ (nI f) vx vy (nI (4 * (b % 2))) (nI (4 * (b / 2))) (nI i) (nI (gv_c7 (nI (4 * (b / 2) + i) + vy))) qu rg bf ph fc dc oc wp rp oa na n (nI j) inp rec dcd typ ord mod vcs nzs str isd vct (gv_wi bwd (gv_ft rec f b vx vy) (i * 4 + j)) prd res cof lev := by
  intro d
  induction d with
  | zero =>
    intro j n hj hn
    obtain ⟨n, rfl⟩ : ∃ m, n = m + 1 := ⟨n - 1, by omega⟩
    obtain rfl : j = 4 := by omega
    rw [Nat.succ_mul] at h
    exact br_t (by decide) (nm_r (nI_1 i) h)
  | succ d ih =>
    intro j n hj hn
    obtain ⟨n, rfl⟩ : ∃ m, n = m + 1 := ⟨n - 1, by omega⟩
    have p1 := gv_pin2 hf (gv_c7_e (nI (4 * (b / 2) + i) + vy)).2 (gv_c7_e (nI (4 * (b % 2) + j) + vx)).2
    refine br_f (nI_ge (b := 4) (by omega) (by decide)) (gx_c7 (w := nI (4 * (b % 2) + j) + vx) (by rw [nI_add]) ⟨?_, ?_, nm_r (e' := gv_wi bwd (gv_ft rec f b vx vy) (i * 4 + (j + 1))) ?_ (nm_r (nI_1 j) (ih (j + 1) n (by omega) (by omega)))⟩)
    · rw [gx_ld]; exact vp_in_nI p1 (by decide)
    · rw [gx_4]; exact vp_in_nI (by omega) (by decide)
    · rw [gx_ld, gx_4, nI_clamp (by omega), nI_clamp (by omega), ← gv_ft_ij (R := rec) (f := f) (b := b) (i := i) (j := j) (vx := vx) (vy := vy) (by omega)]
      rfl
theorem gx_f17_recon_backward {post : SX → Prop} (hf : f < 8) (h : post (qu, rg, bf, ph, fc, dc, oc, wp, rp, oa, na, inp, rec, dcd, typ, ord, mod, vcs, nzs, str, isd, vct, gv_wi bwd (gv_ft rec f b vx vy) 16, prd, res, cof, lev)) :
    ∀ d i n, i + d = 4 → d < n → wX_fetchBlock__recon_backward_17 post (nI f) vx vy (nI (4 * (b % 2))) (nI (4 * (b / 2))) qu rg bf ph fc dc oc wp rp oa na n (nI i) inp rec dcd typ ord mod vcs nzs str isd vct (gv_wi bwd (gv_ft rec f b vx vy) (i * 4)) prd res cof lev := by
  intro d
  induction d with
  | zero =>
    intro i n hi hn
    obtain ⟨n, rfl⟩ : ∃ m, n = m + 1 := ⟨n - 1, by omega⟩
    obtain rfl : i = 4 := by omega
    exact br_t (by decide) h
  | succ d ih =>
    intro i n hi hn
    obtain ⟨n, rfl⟩ : ∃ m, n = m + 1 := ⟨n - 1, by omega⟩
    exact br_f (nI_ge (b := 4) (by omega) (by decide)) (gx_c7 (w := nI (4 * (b / 2) + i) + vy) (by rw [nI_add]) ⟨5, gx_f42_recon_backward hf (by omega) (ih (i + 1) n (by omega) (by omega)) 4 0 5 rfl (by decide)⟩)
theorem gx_fetch_recon_backward {post : SX → Prop} (hf : f < 8) (hb : b < 4) (h : ∀ P : gv_F, (∀ t, t < 16 → P t = gv_ft rec f b vx vy t) → post (qu, rg, bf, ph, fc, dc, oc, wp, rp, oa, na, inp, rec, dcd, typ, ord, mod, vcs, nzs, str, isd, vct, P, prd, res, cof, lev)) : wpX_fetchBlock__recon_backward post (qu, rg, bf, ph, fc, dc, oc, wp, rp, oa, na, inp, rec, dcd, typ, ord, mod, vcs, nzs, str, isd, vct, bwd, prd, res, cof, lev) (nI f) (nI b) vx vy :=
  ⟨by decide, nm_r (gx_lft b hb).1 ⟨by decide, nm_r (gx_lft b hb).2 ⟨5, gx_f17_recon_backward hf (h _ (fun t ht => gv_wi_h ht)) 4 0 5 rfl (by decide)⟩⟩⟩
theorem gx_f42_decoded_prediction {post : SX → Prop} {JJ : Int32 → gv_F → gv_F → gv_F → gv_F → gv_F → gv_F → gv_F → gv_F → gv_F → gv_F → gv_F → gv_F → gv_F → gv_F → gv_F → gv_F →  Prop} (hf : f < 8) {i : Nat} (hi : i < 4)
    (h : JJ (nI (i + 1)) inp rec dcd typ ord mod vcs nzs str isd vct bwd (gv_wi prd (gv_ft dcd f b vx vy) ((i + 1) * 4)) res cof lev) :
    ∀ d j n, j + d = 4 → d < n → wX_fetchBlock__decoded_prediction_42 post JJ (nI f) vx vy (nI (4 * (b % 2))) (nI (4 * (b / 2))) (nI i) (nI (gv_c7 (nI (4 * (b / 2) + i) + vy))) qu rg bf ph fc dc oc wp rp oa na n (nI j) inp rec dcd typ ord mod vcs nzs str isd vct bwd (gv_wi prd (gv_ft dcd f b vx vy) (i * 4 + j)) res cof lev := by
  intro d
  induction d with
  | zero =>
    intro j n hj hn
    obtain ⟨n, rfl⟩ : ∃ m, n = m + 1 := ⟨n - 1, by omega⟩
    obtain rfl : j = 4 := by omega
    rw [Nat.succ_mul] at h
    exact br_t (by decide) (nm_r (nI_1 i) h)
  | succ d ih =>
    intro j n hj hn
    obtain ⟨n, rfl⟩ : ∃ m, n = m + 1 := ⟨n - 1, by omega⟩
    have p1 := gv_pin2 hf (gv_c7_e (nI (4 * (b / 2) + i) + vy)).2 (gv_c7_e (nI (4 * (b % 2) + j) + vx)).2
    refine br_f (nI_ge (b := 4) (by omega) (by decide)) (gx_c7 (w := nI (4 * (b % 2) + j) + vx) (by rw [nI_add]) ⟨?_, ?_, nm_r (e' := gv_wi prd (gv_ft dcd f b vx vy) (i * 4 + (j + 1))) ?_ (nm_r (nI_1 j) (ih (j + 1) n (by omega) (by omega)))⟩)
    · rw [gx_ld]; exact vp_in_nI p1 (by decide)
    · rw [gx_4]; exact vp_in_nI (by omega) (by decide)
    · rw [gx_ld, gx_4, nI_clamp (by omega), nI_clamp (by omega), ← gv_ft_ij (R := dcd) (f := f) (b := b) (i := i) (j := j) (vx := vx) (vy := vy) (by omega)]
      rfl
theorem gx_f17_decoded_prediction {post : SX → Prop} (hf : f < 8) (h : post (qu, rg, bf, ph, fc, dc, oc, wp, rp, oa, na, inp, rec, dcd, typ, ord, mod, vcs, nzs, str, isd, vct, bwd, gv_wi prd (gv_ft dcd f b vx vy) 16, res, cof, lev)) :
    ∀ d i n, i + d = 4 → d < n → wX_fetchBlock__decoded_prediction_17 post (nI f) vx vy (nI (4 * (b % 2))) (nI (4 * (b / 2))) qu rg bf ph fc dc oc wp rp oa na n (nI i) inp rec dcd typ ord mod vcs nzs str isd vct bwd (gv_wi prd (gv_ft dcd f b vx vy) (i * 4)) res cof lev := by
  intro d
  induction d with
  | zero =>
    intro i n hi hn
    obtain ⟨n, rfl⟩ : ∃ m, n = m + 1 := ⟨n - 1, by omega⟩
    obtain rfl : i = 4 := by omega
    exact br_t (by decide) h
  | succ d ih =>
    intro i n hi hn
    obtain ⟨n, rfl⟩ : ∃ m, n = m + 1 := ⟨n - 1, by omega⟩
    exact br_f (nI_ge (b := 4) (by omega) (by decide)) (gx_c7 (w := nI (4 * (b / 2) + i) + vy) (by rw [nI_add]) ⟨5, gx_f42_decoded_prediction hf (by omega) (ih (i + 1) n (by omega) (by omega)) 4 0 5 rfl (by decide)⟩)
theorem gx_fetch_decoded_prediction {post : SX → Prop} (hf : f < 8) (hb : b < 4) (h : ∀ P : gv_F, (∀ t, t < 16 → P t = gv_ft dcd f b vx vy t) → post (qu, rg, bf, ph, fc, dc, oc, wp, rp, oa, na, inp, rec, dcd, typ, ord, mod, vcs, nzs, str, isd, vct, bwd, P, res, cof, lev)) : wpX_fetchBlock__decoded_prediction post (qu, rg, bf, ph, fc, dc, oc, wp, rp, oa, na, inp, rec, dcd, typ, ord, mod, vcs, nzs, str, isd, vct, bwd, prd, res, cof, lev) (nI f) (nI b) vx vy :=
  ⟨by decide, nm_r (gx_lft b hb).1 ⟨by decide, nm_r (gx_lft b hb).2 ⟨5, gx_f17_decoded_prediction hf (h _ (fun t ht => gv_wi_h ht)) 4 0 5 rfl (by decide)⟩⟩⟩
theorem gx_f42_decoded_backward {post : SX → Prop} {JJ : Int32 → gv_F → gv_F → gv_F → gv_F → gv_F → gv_F → gv_F → gv_F → gv_F → gv_F → gv_F → gv_F → gv_F → gv_F → gv_F → gv_F →  Prop} (hf : f < 8) {i : Nat} (hi : i < 4)
    (h : JJ (nI (i + 1)) inp rec dcd typ ord mod vcs nzs str isd vct (gv_wi bwd (gv_ft dcd f b vx vy) ((i + 1) * 4)) prd res cof lev) :
    ∀ d j n, j + d = 4 → d < n → wX_fetchBlock__decoded_backward_42 post JJ (nI f) vx vy (nI (4 * (b % 2))) (nI (4 * (b / 2))) (nI i) (nI (gv_c7 (nI (4 * (b / 2) + i) + vy))) qu rg bf ph fc dc oc wp rp oa na n (nI j) inp rec dcd typ ord mod vcs nzs str isd vct (gv_wi bwd (gv_ft dcd f b vx vy) (i * 4 + j)) prd res cof lev := by
  intro d
  induction d with
  | zero =>
    intro j n hj hn
    obtain ⟨n, rfl⟩ : ∃ m, n = m + 1 := ⟨n - 1, by omega⟩
    obtain rfl : j = 4 := by omega
    rw [Nat.succ_mul] at h
    exact br_t (by decide) (nm_r (nI_1 i) h)
  | succ d ih =>
    intro j n hj hn
    obtain ⟨n, rfl⟩ : ∃ m, n = m + 1 := ⟨n - 1, by omega⟩
    have p1 := gv_pin2 hf (gv_c7_e (nI (4 * (b / 2) + i) + vy)).2 (gv_c7_e (nI (4 * (b % 2) + j) + vx)).2
    refine br_f (nI_ge (b := 4) (by omega) (by decide)) (gx_c7 (w := nI (4 * (b % 2) + j) + vx) (by rw [nI_add]) ⟨?_, ?_, nm_r (e' := gv_wi bwd (gv_ft dcd f b vx vy) (i * 4 + (j + 1))) ?_ (nm_r (nI_1 j) (ih (j + 1) n (by omega) (by omega)))⟩)
    · rw [gx_ld]; exact vp_in_nI p1 (by decide)
    · rw [gx_4]; exact vp_in_nI (by omega) (by decide)
    · rw [gx_ld, gx_4, nI_clamp (by omega), nI_clamp (by omega), ← gv_ft_ij (R := dcd) (f := f) (b := b) (i := i) (j := j) (vx := vx) (vy := vy) (by omega)]
      rfl
theorem gx_f17_decoded_backward {post : SX → Prop} (hf : f < 8) (h : post (qu, rg, bf, ph, fc, dc, oc, wp, rp, oa, na, inp, rec, dcd, typ, ord, mod, vcs, nzs, str, isd, vct, gv_wi bwd (gv_ft dcd f b vx vy) 16, prd, res, cof, lev)) :
    ∀ d i n, i + d = 4 → d < n → wX_fetchBlock__decoded_backward_17 post (nI f) vx vy (nI (4 * (b % 2))) (nI (4 * (b / 2))) qu rg bf ph fc dc oc wp rp oa na n (nI i) inp rec dcd typ ord mod vcs nzs str isd vct (gv_wi bwd (gv_ft dcd f b vx vy) (i * 4)) prd res cof lev := by
  intro d
  induction d with
  | zero =>
    intro i n hi hn
    obtain ⟨n, rfl⟩ : ∃ m, n = m + 1 := ⟨n - 1, by omega⟩
    obtain rfl : i = 4 := by omega
    exact br_t (by decide) h
  | succ d ih =>
    intro i n hi hn
    obtain ⟨n, rfl⟩ : ∃ m, n = m + 1 := ⟨n - 1, by omega⟩
    exact br_f (nI_ge (b := 4) (by omega) (by decide)) (gx_c7 (w := nI (4 * (b / 2) + i) + vy) (by rw [nI_add]) ⟨5, gx_f42_decoded_backward hf (by omega) (ih (i + 1) n (by omega) (by omega)) 4 0 5 rfl (by decide)⟩)
theorem gx_fetch_decoded_backward {post : SX → Prop} (hf : f < 8) (hb : b < 4) (h : ∀ P : gv_F, (∀ t, t < 16 → P t = gv_ft dcd f b vx vy t) → post (qu, rg, bf, ph, fc, dc, oc, wp, rp, oa, na, inp, rec, dcd, typ, ord, mod, vcs, nzs, str, isd, vct, P, prd, res, cof, lev)) : wpX_fetchBlock__decoded_backward post (qu, rg, bf, ph, fc, dc, oc, wp, rp, oa, na, inp, rec, dcd, typ, ord, mod, vcs, nzs, str, isd, vct, bwd, prd, res, cof, lev) (nI f) (nI b) vx vy :=
  ⟨by decide, nm_r (gx_lft b hb).1 ⟨by decide, nm_r (gx_lft b hb).2 ⟨5, gx_f17_decoded_backward hf (h _ (fun t ht => gv_wi_h ht)) 4 0 5 rfl (by decide)⟩⟩⟩
end
end
section
/-! X: transform, two prints -/
theorem gv_tr_ij (F : gv_F) (u v : Nat) {s i j : Nat} (hv : v < 4) (hj : j < 4) (e : s = i * 4 + j) : gv_h u i * F s * gv_h v j = gv_h ((u * 4 + v) / 4) (s / 4) * F s * gv_h ((u * 4 + v) % 4) (s % 4) := by
  subst e
  rw [show (u * 4 + v) / 4 = u by omega, show (u * 4 + v) % 4 = v by omega, show (i * 4 + j) / 4 = i by omega, show (i * 4 + j) % 4 = j by omega]
def gv_tf (F : gv_F) (t s : Nat) : Int32 := gv_h (t / 4) (s / 4) * F s * gv_h (t % 4) (s % 4)
section
variable {qu rg bf ph fc dc oc wp rp oa na : Int32} {inp rec dcd typ ord mod vcs nzs str isd vct bwd prd res cof lev : Nat → Int32}
theorem gx_t29_residual {post : SX → Prop} {J2 J9 : Int32 → gv_F → gv_F → gv_F → gv_F → gv_F → gv_F → gv_F → gv_F → gv_F → gv_F → gv_F → gv_F → gv_F → gv_F → gv_F → gv_F →  Prop} {J20 : Int32 → Int32 → Prop} {u v i : Nat} (hu : u < 4) (hv : v < 4) (hi : i < 4)
    (h : J20 (gv_sm (gv_tf res (u * 4 + v)) ((i + 1) * 4)) (nI (i + 1))) :
    ∀ d j n, j + d = 4 → d < n → wX_transform__residual_coefficients_29 post J2 J9 J20 (nI u) (nI v) (nI i) qu rg bf ph fc dc oc wp rp oa na inp rec dcd typ ord mod vcs nzs str isd vct bwd prd res cof lev n (gv_sm (gv_tf res (u * 4 + v)) (i * 4 + j)) (nI j) := by
  intro d
  induction d with
  | zero =>
    intro j n hj hn
    obtain ⟨n, rfl⟩ : ∃ m, n = m + 1 := ⟨n - 1, by omega⟩
    obtain rfl : j = 4 := by omega
    rw [Nat.succ_mul] at h
    exact br_t (by decide) (nm_r (nI_1 i) h)
  | succ d ih =>
    intro j n hj hn
    obtain ⟨n, rfl⟩ : ∃ m, n = m + 1 := ⟨n - 1, by omega⟩
    refine br_f (nI_ge (b := 4) (by omega) (by decide)) (gx_sign hu hi ⟨?_, gx_sign hv (by omega) (nm_r (e' := gv_sm (gv_tf res (u * 4 + v)) (i * 4 + (j + 1))) ?_ (nm_r (nI_1 j) (ih (j + 1) n (by omega) (by omega))))⟩)
    · rw [gx_4]; exact vp_in_nI (by omega) (by decide)
    · rw [gx_4, nI_clamp (by omega), gv_tr_ij res u v hv (by omega) rfl]
      rfl
theorem gx_t20_residual {post : SX → Prop} {J2 J9 : Int32 → gv_F → gv_F → gv_F → gv_F → gv_F → gv_F → gv_F → gv_F → gv_F → gv_F → gv_F → gv_F → gv_F → gv_F → gv_F → gv_F →  Prop} {u v : Nat} (hu : u < 4) (hv : v < 4)
    (h : J9 (nI (v + 1)) inp rec dcd typ ord mod vcs nzs str isd vct bwd prd res (upd cof (u * 4 + v) (gv_tr res (u * 4 + v))) lev) :
    ∀ d i n, i + d = 4 → d < n → wX_transform__residual_coefficients_20 post J2 J9 (nI u) (nI v) qu rg bf ph fc dc oc wp rp oa na inp rec dcd typ ord mod vcs nzs str isd vct bwd prd res cof lev n (gv_sm (gv_tf res (u * 4 + v)) (i * 4)) (nI i) := by
  intro d
  induction d with
  | zero =>
    intro i n hi hn
    obtain ⟨n, rfl⟩ : ∃ m, n = m + 1 := ⟨n - 1, by omega⟩
    obtain rfl : i = 4 := by omega
    refine br_t (by decide) ⟨?_, nm_r (e' := upd cof (u * 4 + v) (gv_tr res (u * 4 + v))) ?_ (nm_r (nI_1 v) h)⟩
    · rw [gx_4]; exact vp_in_nI (by omega) (by decide)
    · rw [gx_4, nI_clamp (by omega)]
      rfl
  | succ d ih =>
    intro i n hi hn
    obtain ⟨n, rfl⟩ : ∃ m, n = m + 1 := ⟨n - 1, by omega⟩
    exact br_f (nI_ge (b := 4) (by omega) (by decide)) ⟨5, gx_t29_residual hu hv (by omega) (ih (i + 1) n (by omega) (by omega)) 4 0 5 rfl (by decide)⟩
theorem gx_t9_residual {post : SX → Prop} {J2 : Int32 → gv_F → gv_F → gv_F → gv_F → gv_F → gv_F → gv_F → gv_F → gv_F → gv_F → gv_F → gv_F → gv_F → gv_F → gv_F → gv_F →  Prop} {u : Nat} (hu : u < 4)
    (h : J2 (nI (u + 1)) inp rec dcd typ ord mod vcs nzs str isd vct bwd prd res (gv_wi cof (gv_tr res) ((u + 1) * 4)) lev) :
    ∀ d v n, v + d = 4 → d < n → wX_transform__residual_coefficients_9 post J2 (nI u) qu rg bf ph fc dc oc wp rp oa na n (nI v) inp rec dcd typ ord mod vcs nzs str isd vct bwd prd res (gv_wi cof (gv_tr res) (u * 4 + v)) lev := by
  intro d
  induction d with
  | zero =>
    intro v n hv hn
    obtain ⟨n, rfl⟩ : ∃ m, n = m + 1 := ⟨n - 1, by omega⟩
    obtain rfl : v = 4 := by omega
    rw [Nat.succ_mul] at h
    exact br_t (by decide) (nm_r (nI_1 u) h)
  | succ d ih =>
    intro v n hv hn
    obtain ⟨n, rfl⟩ : ∃ m, n = m + 1 := ⟨n - 1, by omega⟩
    exact br_f (nI_ge (b := 4) (by omega) (by decide)) ⟨5, gx_t20_residual hu (by omega) (ih (v + 1) n (by omega) (by omega)) 4 0 5 rfl (by decide)⟩
theorem gx_t2_residual {post : SX → Prop} (h : post (qu, rg, bf, ph, fc, dc, oc, wp, rp, oa, na, inp, rec, dcd, typ, ord, mod, vcs, nzs, str, isd, vct, bwd, prd, res, gv_wi cof (gv_tr res) 16, lev)) :
    ∀ d u n, u + d = 4 → d < n → wX_transform__residual_coefficients_2 post qu rg bf ph fc dc oc wp rp oa na n (nI u) inp rec dcd typ ord mod vcs nzs str isd vct bwd prd res (gv_wi cof (gv_tr res) (u * 4)) lev := by
  intro d
  induction d with
  | zero =>
    intro u n hu hn
    obtain ⟨n, rfl⟩ : ∃ m, n = m + 1 := ⟨n - 1, by omega⟩
    obtain rfl : u = 4 := by omega
    exact br_t (by decide) h
  | succ d ih =>
    intro u n hu hn
    obtain ⟨n, rfl⟩ : ∃ m, n = m + 1 := ⟨n - 1, by omega⟩
    exact br_f (nI_ge (b := 4) (by omega) (by decide)) ⟨5, gx_t9_residual (by omega) (ih (u + 1) n (by omega) (by omega)) 4 0 5 rfl (by decide)⟩
theorem gx_trans_residual {post : SX → Prop} (h : ∀ C : gv_F, (∀ t, t < 16 → C t = gv_tr res t) → post (qu, rg, bf, ph, fc, dc, oc, wp, rp, oa, na, inp, rec, dcd, typ, ord, mod, vcs, nzs, str, isd, vct, bwd, prd, res, C, lev)) : wpX_transform__residual_coefficients post (qu, rg, bf, ph, fc, dc, oc, wp, rp, oa, na, inp, rec, dcd, typ, ord, mod, vcs, nzs, str, isd, vct, bwd, prd, res, cof, lev) :=
  ⟨5, gx_t2_residual (h _ (fun t ht => gv_wi_h ht)) 4 0 5 rfl (by decide)⟩
theorem gx_t29_coefficients {post : SX → Prop} {J2 J9 : Int32 → gv_F → gv_F → gv_F → gv_F → gv_F → gv_F → gv_F → gv_F → gv_F → gv_F → gv_F → gv_F → gv_F → gv_F → gv_F → gv_F →  Prop} {J20 : Int32 → Int32 → Prop} {u v i : Nat} (hu : u < 4) (hv : v < 4) (hi : i < 4)
    (h : J20 (gv_sm (gv_tf cof (u * 4 + v)) ((i + 1) * 4)) (nI (i + 1))) :
    ∀ d j n, j + d = 4 → d < n → wX_transform__coefficients_residual_29 post J2 J9 J20 (nI u) (nI v) (nI i) qu rg bf ph fc dc oc wp rp oa na inp rec dcd typ ord mod vcs nzs str isd vct bwd prd res cof lev n (gv_sm (gv_tf cof (u * 4 + v)) (i * 4 + j)) (nI j) := by
  intro d
  induction d with
  | zero =>
    intro j n hj hn
    obtain ⟨n, rfl⟩ : ∃ m, n = m + 1 := ⟨n - 1, by omega⟩
    obtain rfl : j = 4 := by omega
    rw [Nat.succ_mul] at h
    exact br_t (by decide) (nm_r (nI_1 i) h)
  | succ d ih =>
    intro j n hj hn
    obtain ⟨n, rfl⟩ : ∃ m, n = m + 1 := ⟨n - 1, by omega⟩
    refine br_f (nI_ge (b := 4) (by omega) (by decide)) (gx_sign hu hi ⟨?_, gx_sign hv (by omega) (nm_r (e' := gv_sm (gv_tf cof (u * 4 + v)) (i * 4 + (j + 1))) ?_ (nm_r (nI_1 j) (ih (j + 1) n (by omega) (by omega))))⟩)
    · rw [gx_4]; exact vp_in_nI (by omega) (by decide)
    · rw [gx_4, nI_clamp (by omega), gv_tr_ij cof u v hv (by omega) rfl]
      rfl
theorem gx_t20_coefficients {post : SX → Prop} {J2 J9 : Int32 → gv_F → gv_F → gv_F → gv_F → gv_F → gv_F → gv_F → gv_F → gv_F → gv_F → gv_F → gv_F → gv_F → gv_F → gv_F → gv_F →  Prop} {u v : Nat} (hu : u < 4) (hv : v < 4)
    (h : J9 (nI (v + 1)) inp rec dcd typ ord mod vcs nzs str isd vct bwd prd (upd res (u * 4 + v) (gv_tr cof (u * 4 + v))) cof lev) :
    ∀ d i n, i + d = 4 → d < n → wX_transform__coefficients_residual_20 post J2 J9 (nI u) (nI v) qu rg bf ph fc dc oc wp rp oa na inp rec dcd typ ord mod vcs nzs str isd vct bwd prd res cof lev n (gv_sm (gv_tf cof (u * 4 + v)) (i * 4)) (nI i) := by
  intro d
  induction d with
  | zero =>
    intro i n hi hn
    obtain ⟨n, rfl⟩ : ∃ m, n = m + 1 := ⟨n - 1, by omega⟩
    obtain rfl : i = 4 := by omega
    refine br_t (by decide) ⟨?_, nm_r (e' := upd res (u * 4 + v) (gv_tr cof (u * 4 + v))) ?_ (nm_r (nI_1 v) h)⟩
    · rw [gx_4]; exact vp_in_nI (by omega) (by decide)
    · rw [gx_4, nI_clamp (by omega)]
      rfl
  | succ d ih =>
    intro i n hi hn
    obtain ⟨n, rfl⟩ : ∃ m, n = m + 1 := ⟨n - 1, by omega⟩
    exact br_f (nI_ge (b := 4) (by omega) (by decide)) ⟨5, gx_t29_coefficients hu hv (by omega) (ih (i + 1) n (by omega) (by omega)) 4 0 5 rfl (by decide)⟩
theorem gx_t9_coefficients {post : SX → Prop} {J2 : Int32 → gv_F → gv_F → gv_F → gv_F → gv_F → gv_F → gv_F → gv_F → gv_F → gv_F → gv_F → gv_F → gv_F → gv_F → gv_F → gv_F →  Prop} {u : Nat} (hu : u < 4)
    (h : J2 (nI (u + 1)) inp rec dcd typ ord mod vcs nzs str isd vct bwd prd (gv_wi res (gv_tr cof) ((u + 1) * 4)) cof lev) :
    ∀ d v n, v + d = 4 → d < n → wX_transform__coefficients_residual_9 post J2 (nI u) qu rg bf ph fc dc oc wp rp oa na n (nI v) inp rec dcd typ ord mod vcs nzs str isd vct bwd prd (gv_wi res (gv_tr cof) (u * 4 + v)) cof lev := by
  intro d
  induction d with
  | zero =>
    intro v n hv hn
    obtain ⟨n, rfl⟩ : ∃ m, n = m + 1 := ⟨n - 1, by omega⟩
    obtain rfl : v = 4 := by omega
    rw [Nat.succ_mul] at h
    exact br_t (by decide) (nm_r (nI_1 u) h)
  | succ d ih =>
    intro v n hv hn
    obtain ⟨n, rfl⟩ : ∃ m, n = m + 1 := ⟨n - 1, by omega⟩
    exact br_f (nI_ge (b := 4) (by omega) (by decide)) ⟨5, gx_t20_coefficients hu (by omega) (ih (v + 1) n (by omega) (by omega)) 4 0 5 rfl (by decide)⟩
theorem gx_t2_coefficients {post : SX → Prop} (h : post (qu, rg, bf, ph, fc, dc, oc, wp, rp, oa, na, inp, rec, dcd, typ, ord, mod, vcs, nzs, str, isd, vct, bwd, prd, gv_wi res (gv_tr cof) 16, cof, lev)) :
    ∀ d u n, u + d = 4 → d < n → wX_transform__coefficients_residual_2 post qu rg bf ph fc dc oc wp rp oa na n (nI u) inp rec dcd typ ord mod vcs nzs str isd vct bwd prd (gv_wi res (gv_tr cof) (u * 4)) cof lev := by
  intro d
  induction d with
  | zero =>
    intro u n hu hn
    obtain ⟨n, rfl⟩ : ∃ m, n = m + 1 := ⟨n - 1, by omega⟩
    obtain rfl : u = 4 := by omega
    exact br_t (by decide) h
  | succ d ih =>
    intro u n hu hn
    obtain ⟨n, rfl⟩ : ∃ m, n = m + 1 := ⟨n - 1, by omega⟩
    exact br_f (nI_ge (b := 4) (by omega) (by decide)) ⟨5, gx_t9_coefficients (by omega) (ih (u + 1) n (by omega) (by omega)) 4 0 5 rfl (by decide)⟩
theorem gx_trans_coefficients {post : SX → Prop} (h : ∀ C : gv_F, (∀ t, t < 16 → C t = gv_tr cof t) → post (qu, rg, bf, ph, fc, dc, oc, wp, rp, oa, na, inp, rec, dcd, typ, ord, mod, vcs, nzs, str, isd, vct, bwd, prd, C, cof, lev)) : wpX_transform__coefficients_residual post (qu, rg, bf, ph, fc, dc, oc, wp, rp, oa, na, inp, rec, dcd, typ, ord, mod, vcs, nzs, str, isd, vct, bwd, prd, res, cof, lev) :=
  ⟨5, gx_t2_coefficients (h _ (fun t ht => gv_wi_h ht)) 4 0 5 rfl (by decide)⟩
end
end
section
/-! X: predict, quantise, rebuild, keepBlockData -/
theorem gx_c255 {post : Int32 → Prop} {v : Int32} (h : post (gv_cp v 0 255)) : wpX_clamp post v 0 255 := gx_clamp h
section
variable {qu rg bf ph fc dc oc wp rp oa na : Int32} {inp rec dcd typ ord mod vcs nzs str isd vct bwd prd res cof lev : Nat → Int32}
variable {f b : Nat}
theorem gx_p118_recon {post : SX → Prop} {A : gv_F} (hA : ∀ t, t < 16 → A t = (prd t + bwd t + 1) >>> ((1 : Int32) &&& 31)) (h : post (qu, rg, bf, ph, fc, dc, oc, wp, rp, oa, na, inp, rec, dcd, typ, ord, mod, vcs, nzs, str, isd, vct, bwd, gv_wi prd A 16, res, cof, lev)) :
    ∀ d i n, i + d = 16 → d < n → wX_predict__recon_118 post qu rg bf ph fc dc oc wp rp oa na n (nI i) inp rec dcd typ ord mod vcs nzs str isd vct bwd (gv_wi prd A i) res cof lev := by
  intro d
  induction d with
  | zero =>
    intro i n hi hn
    obtain ⟨n, rfl⟩ : ∃ m, n = m + 1 := ⟨n - 1, by omega⟩
    obtain rfl : i = 16 := by omega
    exact br_t (by decide) h
  | succ d ih =>
    intro i n hi hn
    obtain ⟨n, rfl⟩ : ∃ m, n = m + 1 := ⟨n - 1, by omega⟩
    have hv : vp_in (nI i) 16 := vp_in_nI (by omega) (by decide)
    refine br_f (nI_ge (b := 16) (by omega) (by decide)) ⟨hv, hv, hv, nm_r (e' := gv_wi prd A (i + 1)) ?_ (nm_r (nI_1 i) (ih (i + 1) n (by omega) (by omega)))⟩
    rw [nI_clamp (by omega), gv_wi_m (Nat.le_refl i), ← hA i (by omega)]
    rfl
theorem gx_p7_recon {post : SX → Prop} {b next : Nat} (h : post (qu, rg, bf, ph, fc, dc, oc, wp, rp, oa, na, inp, rec, dcd, typ, ord, mod, vcs, nzs, str, isd, vct, bwd, gv_wi prd (fun _ => 128) 16, res, cof, lev)) :
    ∀ d i n, i + d = 16 → d < n → wX_predict__recon_7 post (nI b) 0 (nI next) qu rg bf ph fc dc oc wp rp oa na n (nI i) inp rec dcd typ ord mod vcs nzs str isd vct bwd (gv_wi prd (fun _ => 128) i) res cof lev := by
  intro d
  induction d with
  | zero =>
    intro i n hi hn
    obtain ⟨n, rfl⟩ : ∃ m, n = m + 1 := ⟨n - 1, by omega⟩
    obtain rfl : i = 16 := by omega
    exact br_t (by decide) (br_f (by decide) h)
  | succ d ih =>
    intro i n hi hn
    obtain ⟨n, rfl⟩ : ∃ m, n = m + 1 := ⟨n - 1, by omega⟩
    refine br_f (nI_ge (b := 16) (by omega) (by decide)) ⟨vp_in_nI (by omega) (by decide), nm_r (e' := gv_wi prd (fun _ => 128) (i + 1)) ?_ (nm_r (nI_1 i) (ih (i + 1) n (by omega) (by omega)))⟩
    rw [nI_clamp (by omega)]
    rfl
theorem gx_pred_recon {post : SX → Prop} {m past next : Nat} (hb : b < 4) (hm : m < 4) (hp : past < 8) (hn : next < 8)
    (h : ∀ P Q : gv_F, (∀ t, t < 16 → P t = gv_pr rec b m vct past next t) → post (qu, rg, bf, ph, fc, dc, oc, wp, rp, oa, na, inp, rec, dcd, typ, ord, mod, vcs, nzs, str, isd, vct, Q, P, res, cof, lev)) : wpX_predict__recon post (qu, rg, bf, ph, fc, dc, oc, wp, rp, oa, na, inp, rec, dcd, typ, ord, mod, vcs, nzs, str, isd, vct, bwd, prd, res, cof, lev) (nI b) (nI m) (nI past) (nI next) := by
  rcases (by omega : m = 0 ∨ m = 1 ∨ m = 2 ∨ m = 3) with rfl | rfl | rfl | rfl
  · exact br_t rfl ⟨17, gx_p7_recon (h _ _ (fun t ht => gv_wi_h ht)) 16 0 17 rfl (by decide)⟩
  · exact br_f (by decide) (br_f (by decide) (gx_fetch_recon_prediction hp hb (fun P hP => br_f (by decide) (h _ _ hP))))
  · exact br_f (by decide) (br_t rfl (gx_fetch_recon_prediction hn hb (fun P hP => br_f (by decide) (h _ _ hP))))
  · refine br_f (by decide) (br_f (by decide) (gx_fetch_recon_prediction hp hb (fun P hP => br_t rfl (gx_fetch_recon_backward hn hb (fun Q hQ => ⟨17, gx_p118_recon (A := fun t => (P t + Q t + 1) >>> ((1 : Int32) &&& 31)) (fun _ _ => rfl) (h _ _ (fun t ht => ?_)) 16 0 17 rfl (by decide)⟩)))))
    rw [gv_wi_h ht]
    show (P t + Q t + 1) >>> _ = (gv_ft _ _ _ _ _ _ + gv_ft _ _ _ _ _ _ + 1) >>> _
    rw [hP t ht, hQ t ht]
theorem gx_r47_recon {post : SX → Prop} {P G : gv_F} (hf : f < 8) (hb : b < 4) (hP : ∀ t, t < 16 → gv_cp (prd t + ((res t + 8) >>> ((4 : Int32) &&& 31))) 0 255 = G t) (h : post (qu, rg, bf, ph, fc, dc, oc, wp, rp, oa, na, inp, gv_wr rec (fun t => f * 64 + gv_id b t) G 16, dcd, typ, ord, mod, vcs, nzs, str, isd, vct, bwd, prd, res, cof, lev)) :
    ∀ d i n, i + d = 16 → d < n → wX_rebuild__recon_47 post (nI f) (nI b) qu rg bf ph fc dc oc wp rp oa na n (nI i) inp (gv_wr rec (fun t => f * 64 + gv_id b t) G i) dcd typ ord mod vcs nzs str isd vct bwd prd res cof lev := by
  intro d
  induction d with
  | zero =>
    intro i n hi hn
    obtain ⟨n, rfl⟩ : ∃ m, n = m + 1 := ⟨n - 1, by omega⟩
    obtain rfl : i = 16 := by omega
    exact br_t (by decide) h
  | succ d ih =>
    intro i n hi hn
    obtain ⟨n, rfl⟩ : ∃ m, n = m + 1 := ⟨n - 1, by omega⟩
    have hv : vp_in (nI i) 16 := vp_in_nI (by omega) (by decide)
    have hpin := gv_pin hf hb (t := i) (by omega)
    refine br_f (nI_ge (b := 16) (by omega) (by decide)) (gx_place hb (by omega) ⟨hv, nm_e ⟨hv, gx_c255 ⟨vp_in_nI hpin (by decide), nm_r (e' := gv_wr rec (fun t => f * 64 + gv_id b t) G (i + 1)) ?_ (nm_r (nI_1 i) (ih (i + 1) n (by omega) (by omega)))⟩⟩⟩)
    rw [nI_clamp (by omega), nI_clamp (by omega), hP i (by omega)]
    rfl
theorem gx_r3_recon {post : SX → Prop} {q : Nat} {P L : gv_F} (hf : f < 8) (hb : b < 4) (hP : ∀ t, t < 16 → prd t = P t) (hL : ∀ t, t < 16 → lev t = L t)
    (h : ∀ A B : gv_F, post (qu, rg, bf, ph, fc, dc, oc, wp, rp, oa, na, inp, gv_wb rec f b (gv_rb P L q), dcd, typ, ord, mod, vcs, nzs, str, isd, vct, bwd, prd, A, B, lev)) :
    ∀ d i n, i + d = 16 → d < n → wX_rebuild__recon_3 post (nI f) (nI b) (nI q) qu rg bf ph fc dc oc wp rp oa na n (nI i) inp rec dcd typ ord mod vcs nzs str isd vct bwd prd res (gv_wi cof (fun t => lev t * nI q) i) lev := by
  intro d
  induction d with
  | zero =>
    intro i n hi hn
    obtain ⟨n, rfl⟩ : ∃ m, n = m + 1 := ⟨n - 1, by omega⟩
    obtain rfl : i = 16 := by omega
    refine br_t (by decide) (gx_trans_coefficients (fun A hA => ⟨17, gx_r47_recon (G := gv_rb P L q) (P := P) hf hb (fun t ht => ?_) (h _ _) 16 0 17 rfl (by decide)⟩))
    unfold gv_rb
    rw [hP t ht, hA t ht, gv_tr_c (G := fun s => L s * nI q) (fun s hs => by rw [gv_wi_h hs, hL s hs]) t]
  | succ d ih =>
    intro i n hi hn
    obtain ⟨n, rfl⟩ : ∃ m, n = m + 1 := ⟨n - 1, by omega⟩
    have hv : vp_in (nI i) 16 := vp_in_nI (by omega) (by decide)
    refine br_f (nI_ge (b := 16) (by omega) (by decide)) ⟨hv, hv, nm_r (e' := gv_wi cof (fun t => lev t * nI q) (i + 1)) ?_ (nm_r (nI_1 i) (ih (i + 1) n (by omega) (by omega)))⟩
    rw [nI_clamp (by omega)]
    rfl
theorem gx_rebuild_recon {post : SX → Prop} {q : Nat} {P L : gv_F} (hf : f < 8) (hb : b < 4) (hP : ∀ t, t < 16 → prd t = P t) (hL : ∀ t, t < 16 → lev t = L t)
    (h : ∀ A B : gv_F, post (qu, rg, bf, ph, fc, dc, oc, wp, rp, oa, na, inp, gv_wb rec f b (gv_rb P L q), dcd, typ, ord, mod, vcs, nzs, str, isd, vct, bwd, prd, A, B, lev)) : wpX_rebuild__recon post (qu, rg, bf, ph, fc, dc, oc, wp, rp, oa, na, inp, rec, dcd, typ, ord, mod, vcs, nzs, str, isd, vct, bwd, prd, res, cof, lev) (nI f) (nI b) (nI q) :=
  ⟨17, gx_r3_recon hf hb hP hL h 16 0 17 rfl (by decide)⟩
theorem gx_p118_decoded {post : SX → Prop} {A : gv_F} (hA : ∀ t, t < 16 → A t = (prd t + bwd t + 1) >>> ((1 : Int32) &&& 31)) (h : post (qu, rg, bf, ph, fc, dc, oc, wp, rp, oa, na, inp, rec, dcd, typ, ord, mod, vcs, nzs, str, isd, vct, bwd, gv_wi prd A 16, res, cof, lev)) :
    ∀ d i n, i + d = 16 → d < n → wX_predict__decoded_118 post qu rg bf ph fc dc oc wp rp oa na n (nI i) inp rec dcd typ ord mod vcs nzs str isd vct bwd (gv_wi prd A i) res cof lev := by
  intro d
  induction d with
  | zero =>
    intro i n hi hn
    obtain ⟨n, rfl⟩ : ∃ m, n = m + 1 := ⟨n - 1, by omega⟩
    obtain rfl : i = 16 := by omega
    exact br_t (by decide) h
  | succ d ih =>
    intro i n hi hn
    obtain ⟨n, rfl⟩ : ∃ m, n = m + 1 := ⟨n - 1, by omega⟩
    have hv : vp_in (nI i) 16 := vp_in_nI (by omega) (by decide)
    refine br_f (nI_ge (b := 16) (by omega) (by decide)) ⟨hv, hv, hv, nm_r (e' := gv_wi prd A (i + 1)) ?_ (nm_r (nI_1 i) (ih (i + 1) n (by omega) (by omega)))⟩
    rw [nI_clamp (by omega), gv_wi_m (Nat.le_refl i), ← hA i (by omega)]
    rfl
theorem gx_p7_decoded {post : SX → Prop} {b next : Nat} (h : post (qu, rg, bf, ph, fc, dc, oc, wp, rp, oa, na, inp, rec, dcd, typ, ord, mod, vcs, nzs, str, isd, vct, bwd, gv_wi prd (fun _ => 128) 16, res, cof, lev)) :
    ∀ d i n, i + d = 16 → d < n → wX_predict__decoded_7 post (nI b) 0 (nI next) qu rg bf ph fc dc oc wp rp oa na n (nI i) inp rec dcd typ ord mod vcs nzs str isd vct bwd (gv_wi prd (fun _ => 128) i) res cof lev := by
  intro d
  induction d with
  | zero =>
    intro i n hi hn
    obtain ⟨n, rfl⟩ : ∃ m, n = m + 1 := ⟨n - 1, by omega⟩
    obtain rfl : i = 16 := by omega
    exact br_t (by decide) (br_f (by decide) h)
  | succ d ih =>
    intro i n hi hn
    obtain ⟨n, rfl⟩ : ∃ m, n = m + 1 := ⟨n - 1, by omega⟩
    refine br_f (nI_ge (b := 16) (by omega) (by decide)) ⟨vp_in_nI (by omega) (by decide), nm_r (e' := gv_wi prd (fun _ => 128) (i + 1)) ?_ (nm_r (nI_1 i) (ih (i + 1) n (by omega) (by omega)))⟩
    rw [nI_clamp (by omega)]
    rfl
theorem gx_pred_decoded {post : SX → Prop} {m past next : Nat} (hb : b < 4) (hm : m < 4) (hp : past < 8) (hn : next < 8)
    (h : ∀ P Q : gv_F, (∀ t, t < 16 → P t = gv_pr dcd b m vct past next t) → post (qu, rg, bf, ph, fc, dc, oc, wp, rp, oa, na, inp, rec, dcd, typ, ord, mod, vcs, nzs, str, isd, vct, Q, P, res, cof, lev)) : wpX_predict__decoded post (qu, rg, bf, ph, fc, dc, oc, wp, rp, oa, na, inp, rec, dcd, typ, ord, mod, vcs, nzs, str, isd, vct, bwd, prd, res, cof, lev) (nI b) (nI m) (nI past) (nI next) := by
  rcases (by omega : m = 0 ∨ m = 1 ∨ m = 2 ∨ m = 3) with rfl | rfl | rfl | rfl
  · exact br_t rfl ⟨17, gx_p7_decoded (h _ _ (fun t ht => gv_wi_h ht)) 16 0 17 rfl (by decide)⟩
  · exact br_f (by decide) (br_f (by decide) (gx_fetch_decoded_prediction hp hb (fun P hP => br_f (by decide) (h _ _ hP))))
  · exact br_f (by decide) (br_t rfl (gx_fetch_decoded_prediction hn hb (fun P hP => br_f (by decide) (h _ _ hP))))
  · refine br_f (by decide) (br_f (by decide) (gx_fetch_decoded_prediction hp hb (fun P hP => br_t rfl (gx_fetch_decoded_backward hn hb (fun Q hQ => ⟨17, gx_p118_decoded (A := fun t => (P t + Q t + 1) >>> ((1 : Int32) &&& 31)) (fun _ _ => rfl) (h _ _ (fun t ht => ?_)) 16 0 17 rfl (by decide)⟩)))))
    rw [gv_wi_h ht]
    show (P t + Q t + 1) >>> _ = (gv_ft _ _ _ _ _ _ + gv_ft _ _ _ _ _ _ + 1) >>> _
    rw [hP t ht, hQ t ht]
theorem gx_r47_decoded {post : SX → Prop} {P G : gv_F} (hf : f < 8) (hb : b < 4) (hP : ∀ t, t < 16 → gv_cp (prd t + ((res t + 8) >>> ((4 : Int32) &&& 31))) 0 255 = G t) (h : post (qu, rg, bf, ph, fc, dc, oc, wp, rp, oa, na, inp, rec, gv_wr dcd (fun t => f * 64 + gv_id b t) G 16, typ, ord, mod, vcs, nzs, str, isd, vct, bwd, prd, res, cof, lev)) :
    ∀ d i n, i + d = 16 → d < n → wX_rebuild__decoded_47 post (nI f) (nI b) qu rg bf ph fc dc oc wp rp oa na n (nI i) inp rec (gv_wr dcd (fun t => f * 64 + gv_id b t) G i) typ ord mod vcs nzs str isd vct bwd prd res cof lev := by
  intro d
  induction d with
  | zero =>
    intro i n hi hn
    obtain ⟨n, rfl⟩ : ∃ m, n = m + 1 := ⟨n - 1, by omega⟩
    obtain rfl : i = 16 := by omega
    exact br_t (by decide) h
  | succ d ih =>
    intro i n hi hn
    obtain ⟨n, rfl⟩ : ∃ m, n = m + 1 := ⟨n - 1, by omega⟩
    have hv : vp_in (nI i) 16 := vp_in_nI (by omega) (by decide)
    have hpin := gv_pin hf hb (t := i) (by omega)
    refine br_f (nI_ge (b := 16) (by omega) (by decide)) (gx_place hb (by omega) ⟨hv, nm_e ⟨hv, gx_c255 ⟨vp_in_nI hpin (by decide), nm_r (e' := gv_wr dcd (fun t => f * 64 + gv_id b t) G (i + 1)) ?_ (nm_r (nI_1 i) (ih (i + 1) n (by omega) (by omega)))⟩⟩⟩)
    rw [nI_clamp (by omega), nI_clamp (by omega), hP i (by omega)]
    rfl
theorem gx_r3_decoded {post : SX → Prop} {q : Nat} {P L : gv_F} (hf : f < 8) (hb : b < 4) (hP : ∀ t, t < 16 → prd t = P t) (hL : ∀ t, t < 16 → lev t = L t)
    (h : ∀ A B : gv_F, post (qu, rg, bf, ph, fc, dc, oc, wp, rp, oa, na, inp, rec, gv_wb dcd f b (gv_rb P L q), typ, ord, mod, vcs, nzs, str, isd, vct, bwd, prd, A, B, lev)) :
    ∀ d i n, i + d = 16 → d < n → wX_rebuild__decoded_3 post (nI f) (nI b) (nI q) qu rg bf ph fc dc oc wp rp oa na n (nI i) inp rec dcd typ ord mod vcs nzs str isd vct bwd prd res (gv_wi cof (fun t => lev t * nI q) i) lev := by
  intro d
  induction d with
  | zero =>
    intro i n hi hn
    obtain ⟨n, rfl⟩ : ∃ m, n = m + 1 := ⟨n - 1, by omega⟩
    obtain rfl : i = 16 := by omega
    refine br_t (by decide) (gx_trans_coefficients (fun A hA => ⟨17, gx_r47_decoded (G := gv_rb P L q) (P := P) hf hb (fun t ht => ?_) (h _ _) 16 0 17 rfl (by decide)⟩))
    unfold gv_rb
    rw [hP t ht, hA t ht, gv_tr_c (G := fun s => L s * nI q) (fun s hs => by rw [gv_wi_h hs, hL s hs]) t]
  | succ d ih =>
    intro i n hi hn
    obtain ⟨n, rfl⟩ : ∃ m, n = m + 1 := ⟨n - 1, by omega⟩
    have hv : vp_in (nI i) 16 := vp_in_nI (by omega) (by decide)
    refine br_f (nI_ge (b := 16) (by omega) (by decide)) ⟨hv, hv, nm_r (e' := gv_wi cof (fun t => lev t * nI q) (i + 1)) ?_ (nm_r (nI_1 i) (ih (i + 1) n (by omega) (by omega)))⟩
    rw [nI_clamp (by omega)]
    rfl
theorem gx_rebuild_decoded {post : SX → Prop} {q : Nat} {P L : gv_F} (hf : f < 8) (hb : b < 4) (hP : ∀ t, t < 16 → prd t = P t) (hL : ∀ t, t < 16 → lev t = L t)
    (h : ∀ A B : gv_F, post (qu, rg, bf, ph, fc, dc, oc, wp, rp, oa, na, inp, rec, gv_wb dcd f b (gv_rb P L q), typ, ord, mod, vcs, nzs, str, isd, vct, bwd, prd, A, B, lev)) : wpX_rebuild__decoded post (qu, rg, bf, ph, fc, dc, oc, wp, rp, oa, na, inp, rec, dcd, typ, ord, mod, vcs, nzs, str, isd, vct, bwd, prd, res, cof, lev) (nI f) (nI b) (nI q) :=
  ⟨17, gx_r3_decoded hf hb hP hL h 16 0 17 rfl (by decide)⟩
theorem gx_q55 {post : SX → Prop} {q : Nat} {A : gv_F} (hq : 0 < q) (hq2 : q ≤ 64) (hA : ∀ t, t < 16 → gv_qt q (cof t) = A t) (h : post (nI q, rg, bf, ph, fc, dc, oc, wp, rp, oa, na, inp, rec, dcd, typ, ord, mod, vcs, nzs, str, isd, vct, bwd, prd, res, cof, gv_wi lev A 16)) :
    ∀ d i n, i + d = 16 → d < n → wX_quantise_55 post (nI q) rg bf ph fc dc oc wp rp oa na n (nI i) inp rec dcd typ ord mod vcs nzs str isd vct bwd prd res cof (gv_wi lev A i) := by
  intro d
  induction d with
  | zero =>
    intro i n hi hn
    obtain ⟨n, rfl⟩ : ∃ m, n = m + 1 := ⟨n - 1, by omega⟩
    obtain rfl : i = 16 := by omega
    exact br_t (by decide) h
  | succ d ih =>
    intro i n hi hn
    obtain ⟨n, rfl⟩ : ∃ m, n = m + 1 := ⟨n - 1, by omega⟩
    have hv : vp_in (nI i) 16 := vp_in_nI (by omega) (by decide)
    have e := hA i (by omega)
    refine br_f (nI_ge (b := 16) (by omega) (by decide)) ⟨hv, gx_abs ⟨by decide, nI_ne0 hq (by omega), nm_e ⟨hv, br_c (fun c => ⟨hv, nm_r (e' := gv_wi lev A (i + 1)) ?_ (nm_r (nI_1 i) (ih (i + 1) n (by omega) (by omega)))⟩) (fun c => ⟨hv, nm_r (e' := gv_wi lev A (i + 1)) ?_ (nm_r (nI_1 i) (ih (i + 1) n (by omega) (by omega)))⟩)⟩⟩⟩
    · rw [nI_clamp (by omega)] at c ⊢
      unfold gv_qt at e
      rw [if_neg (Int32.not_lt.mpr c)] at e
      rw [e]; rfl
    · rw [nI_clamp (by omega)] at c ⊢
      unfold gv_qt at e
      rw [if_pos (Int32.not_le.mp c)] at e
      rw [e]; rfl
theorem gx_q2 {post : SX → Prop} {q : Nat} {P : gv_F} (hq : 0 < q) (hq2 : q ≤ 64) (hf : f < 8) (hb : b < 4) (hP : ∀ t, t < 16 → prd t = P t)
    (h : ∀ A B L : gv_F, (∀ t, t < 16 → L t = gv_lv inp f b q P t) → post (nI q, rg, bf, ph, fc, dc, oc, wp, rp, oa, na, inp, rec, dcd, typ, ord, mod, vcs, nzs, str, isd, vct, bwd, prd, A, B, L)) :
    ∀ d i n, i + d = 16 → d < n → wX_quantise_2 post (nI f) (nI b) (nI q) rg bf ph fc dc oc wp rp oa na n (nI i) inp rec dcd typ ord mod vcs nzs str isd vct bwd prd (gv_wi res (gv_rs inp f b P) i) cof lev := by
  intro d
  induction d with
  | zero =>
    intro i n hi hn
    obtain ⟨n, rfl⟩ : ∃ m, n = m + 1 := ⟨n - 1, by omega⟩
    obtain rfl : i = 16 := by omega
    refine br_t (by decide) (gx_trans_residual (fun C hC => ⟨17, gx_q55 (A := gv_lv inp f b q P) hq hq2 (fun t ht => ?_) (h _ _ _ (fun t ht => gv_wi_h ht)) 16 0 17 rfl (by decide)⟩))
    unfold gv_lv
    rw [hC t ht, gv_tr_c (G := gv_rs inp f b P) (fun s hs => gv_wi_h hs) t]
  | succ d ih =>
    intro i n hi hn
    obtain ⟨n, rfl⟩ : ∃ m, n = m + 1 := ⟨n - 1, by omega⟩
    have hv : vp_in (nI i) 16 := vp_in_nI (by omega) (by decide)
    have hpin := gv_pin hf hb (t := i) (by omega)
    refine br_f (nI_ge (b := 16) (by omega) (by decide)) (gx_place hb (by omega) ⟨vp_in_nI hpin (by decide), hv, hv, nm_r (e' := gv_wi res (gv_rs inp f b P) (i + 1)) ?_ (nm_r (nI_1 i) (ih (i + 1) n (by omega) (by omega)))⟩)
    rw [nI_clamp (by omega), nI_clamp (by omega), hP i (by omega)]
    rfl
theorem gx_quant {post : SX → Prop} {q : Nat} {P : gv_F} (hq : 0 < q) (hq2 : q ≤ 64) (hf : f < 8) (hb : b < 4) (hP : ∀ t, t < 16 → prd t = P t)
    (h : ∀ A B L : gv_F, (∀ t, t < 16 → L t = gv_lv inp f b q P t) → post (nI q, rg, bf, ph, fc, dc, oc, wp, rp, oa, na, inp, rec, dcd, typ, ord, mod, vcs, nzs, str, isd, vct, bwd, prd, A, B, L)) : wpX_quantise post (nI q, rg, bf, ph, fc, dc, oc, wp, rp, oa, na, inp, rec, dcd, typ, ord, mod, vcs, nzs, str, isd, vct, bwd, prd, res, cof, lev) (nI f) (nI b) :=
  ⟨17, gx_q2 hq hq2 hf hb hP h 16 0 17 rfl (by decide)⟩
theorem gx_k55 {post : SX → Prop} {k : Nat} {L : gv_F} (hk : k < 32) (hL : ∀ t, t < 16 → lev t = L t) (h : post (qu, rg, bf, ph, fc, dc, oc, wp, rp, oa, na, inp, rec, dcd, typ, ord, mod, vcs, upd nzs k (gv_nz L), str, isd, vct, bwd, prd, res, cof, lev)) :
    ∀ d i n, i + d = 16 → d < n → wX_keepBlockData_55 post (nI k) qu rg bf ph fc dc oc wp rp oa na inp rec dcd typ ord mod vcs nzs str isd vct bwd prd res cof lev n (gv_sm (fun t => if L t = 0 then 0 else 1) i) (nI i) := by
  intro d
  induction d with
  | zero =>
    intro i n hi hn
    obtain ⟨n, rfl⟩ : ∃ m, n = m + 1 := ⟨n - 1, by omega⟩
    obtain rfl : i = 16 := by omega
    refine br_t (by decide) ⟨vp_in_nI hk (by decide), nm_r (e' := upd nzs k (gv_nz L)) ?_ h⟩
    rw [nI_clamp (by omega)]
    rfl
  | succ d ih =>
    intro i n hi hn
    obtain ⟨n, rfl⟩ : ∃ m, n = m + 1 := ⟨n - 1, by omega⟩
    have hv : vp_in (nI i) 16 := vp_in_nI (by omega) (by decide)
    have I := ih (i + 1) n (by omega) (by omega)
    have e := hL i (by omega)
    refine br_f (nI_ge (b := 16) (by omega) (by decide)) ⟨hv, br_c (fun c => nm_r (nI_1 i) ?_) (fun c => nm_e (nm_r (nI_1 i) ?_))⟩
    · rw [nI_clamp (by omega), e] at c
      rw [← gv_sm_s, if_pos c, Int32.add_zero] at I
      exact I
    · rw [nI_clamp (by omega), e] at c
      rw [← gv_sm_s, if_neg c] at I
      exact I
theorem gx_k18 {post : SX → Prop} {k : Nat} {L : gv_F} (hk : k < 32) (hL : ∀ t, t < 16 → lev t = L t) (h : post (qu, rg, bf, ph, fc, dc, oc, wp, rp, oa, na, inp, rec, dcd, typ, ord, mod, gv_w4 vcs k vct, upd nzs k (gv_nz L), str, isd, vct, bwd, prd, res, cof, lev)) :
    ∀ d i n, i + d = 4 → d < n → wX_keepBlockData_18 post (nI k) qu rg bf ph fc dc oc wp rp oa na n (nI i) inp rec dcd typ ord mod (gv_wr vcs (fun c => k * 4 + c) vct i) nzs str isd vct bwd prd res cof lev := by
  intro d
  induction d with
  | zero =>
    intro i n hi hn
    obtain ⟨n, rfl⟩ : ∃ m, n = m + 1 := ⟨n - 1, by omega⟩
    obtain rfl : i = 4 := by omega
    exact br_t (by decide) ⟨17, gx_k55 hk hL h 16 0 17 rfl (by decide)⟩
  | succ d ih =>
    intro i n hi hn
    obtain ⟨n, rfl⟩ : ∃ m, n = m + 1 := ⟨n - 1, by omega⟩
    refine br_f (nI_ge (b := 4) (by omega) (by decide)) ⟨vp_in_nI (by omega) (by decide), ?_, nm_r (e' := gv_wr vcs (fun c => k * 4 + c) vct (i + 1)) ?_ (nm_r (nI_1 i) (ih (i + 1) n (by omega) (by omega)))⟩
    · rw [gx_4]; exact vp_in_nI (by omega) (by decide)
    · rw [gx_4, nI_clamp (by omega), nI_clamp (by omega)]
      rfl
theorem gx_keep {post : SX → Prop} {m : Nat} {L : gv_F} (hf : f < 8) (hb : b < 4) (hL : ∀ t, t < 16 → lev t = L t)
    (h : post (qu, rg, bf, ph, fc, dc, oc, wp, rp, oa, na, inp, rec, dcd, typ, ord, upd mod (f * 4 + b) (nI m), gv_w4 vcs (f * 4 + b) vct, upd nzs (f * 4 + b) (gv_nz L), str, isd, vct, bwd, prd, res, cof, lev)) : wpX_keepBlockData post (qu, rg, bf, ph, fc, dc, oc, wp, rp, oa, na, inp, rec, dcd, typ, ord, mod, vcs, nzs, str, isd, vct, bwd, prd, res, cof, lev) (nI f) (nI b) (nI m) := by
  refine nm_r gx_4 ⟨vp_in_nI (by omega) (by decide), nm_r (e' := upd mod (f * 4 + b) (nI m)) ?_ ⟨5, gx_k18 (by omega) hL h 4 0 5 rfl (by decide)⟩⟩
  rw [nI_clamp (by omega)]
end
end
section
/-! X: the bit stream -/
theorem gv_rd_lo {S S' : gv_F} {P p w : Nat} (h : ∀ j, j < P → S j = S' j) (hp : p + w ≤ P) : gv_rd S p w = gv_rd S' p w := gv_rd_c w (fun j _ h2 => h j (by omega))
theorem gv_b1 : vp_nar .boolean 1 = 1 := rfl
theorem gv_b0 : vp_nar .boolean 0 = 0 := rfl
section
variable {qu rg bf ph fc dc oc wp rp oa na : Int32} {inp rec dcd typ ord mod vcs nzs str isd vct bwd prd res cof lev : Nat → Int32}
theorem gx_w4 {post : SX → Prop} {v w p : Nat} (hv : v < 2 ^ 31) (hw : w < 32) (hp : p + w ≤ 7192) (h : post (qu, rg, bf, ph, fc, dc, oc, nI (p + w), rp, oa, na, inp, rec, dcd, typ, ord, mod, vcs, nzs, gv_ws str p v w w, isd, vct, bwd, prd, res, cof, lev)) :
    ∀ d i n, i + d = w → d < n → wX_writeBits_4 post (nI v) qu rg bf ph fc dc oc rp oa na n (nI d - 1) (nI (p + i)) inp rec dcd typ ord mod vcs nzs (gv_ws str p v w i) isd vct bwd prd res cof lev := by
  intro d
  induction d with
  | zero =>
    intro i n hi hn
    obtain ⟨n, rfl⟩ : ∃ m, n = m + 1 := ⟨n - 1, by omega⟩
    obtain rfl : i = w := by omega
    exact br_t (by decide) h
  | succ d ih =>
    intro i n hi hn
    obtain ⟨n, rfl⟩ : ∃ m, n = m + 1 := ⟨n - 1, by omega⟩
    have I := ih (i + 1) n (by omega) (by omega)
    have hb := gv_bit (v := v) (k := d) hv (by omega)
    have e : w - 1 - i = d := by omega
    have hin : vp_in (nI (p + i)) 7192 := vp_in_nI (by omega) (by decide)
    rw [nI_pred]
    refine br_f (nI_pos (by omega)) (br_f (nI_ge (b := 7192) (by omega) (by decide)) (br_c (fun c => ⟨hin, nm_r (e' := gv_ws str p v w (i + 1)) ?_ (nm_r (nI_1 (p + i)) (nm_r (Int32.sub_eq_add_neg _ _).symm I))⟩) (fun c => ⟨hin, nm_r (e' := gv_ws str p v w (i + 1)) ?_ (nm_r (nI_1 (p + i)) (nm_r (Int32.sub_eq_add_neg _ _).symm I))⟩)))
    · rw [hb] at c
      rw [nI_clamp (by omega), gv_b1, ← c, ← e]
      rfl
    · rw [hb] at c
      have z : nI (v / 2 ^ d % 2) = 0 := by
        rcases Nat.mod_two_eq_zero_or_one (v / 2 ^ d) with y | y
        · rw [y]; rfl
        · rw [y] at c; exact absurd rfl c
      rw [nI_clamp (by omega), gv_b0, ← z, ← e]
      rfl
theorem gx_wb {post : SX → Prop} (v w p : Nat) (hv : v < 2 ^ 31) (hw : w < 32) (hp : p + w ≤ 7192) (h : post (qu, rg, bf, ph, fc, dc, oc, nI (p + w), rp, oa, na, inp, rec, dcd, typ, ord, mod, vcs, nzs, gv_ws str p v w w, isd, vct, bwd, prd, res, cof, lev)) : wpX_writeBits post (qu, rg, bf, ph, fc, dc, oc, nI p, rp, oa, na, inp, rec, dcd, typ, ord, mod, vcs, nzs, str, isd, vct, bwd, prd, res, cof, lev) (nI v) (nI w) :=
  nm_e ⟨w + 1, gx_w4 hv hw hp h w 0 (w + 1) (by omega) (by omega)⟩
theorem gx_r4 {post : Int32 → SX → Prop} {w p : Nat} (hw : w < 32) (hp : p + w ≤ 7192) (h : post (nI (gv_rd str p w)) (qu, rg, bf, ph, fc, dc, oc, wp, nI (p + w), oa, na, inp, rec, dcd, typ, ord, mod, vcs, nzs, str, isd, vct, bwd, prd, res, cof, lev)) :
    ∀ d i n, i + d = w → d < n → wX_readBits_4 post (nI w) qu rg bf ph fc dc oc wp oa na inp rec dcd typ ord mod vcs nzs str isd vct bwd prd res cof lev n (nI (gv_rd str p i)) (nI i) (nI (p + i)) := by
  intro d
  induction d with
  | zero =>
    intro i n hi hn
    obtain ⟨n, rfl⟩ : ∃ m, n = m + 1 := ⟨n - 1, by omega⟩
    obtain rfl : i = w := by omega
    exact br_t (nI_le (Nat.le_refl _) (by omega)) h
  | succ d ih =>
    intro i n hi hn
    obtain ⟨n, rfl⟩ : ∃ m, n = m + 1 := ⟨n - 1, by omega⟩
    have I := ih (i + 1) n (by omega) (by omega)
    refine br_f (nI_ge (by omega) (by omega)) (br_f (nI_ge (b := 7192) (by omega) (by decide)) ⟨vp_in_nI (by omega) (by decide), br_c (fun c => nm_r (e' := nI (gv_rd str p (i + 1))) ?_ (nm_r (nI_1 (p + i)) (nm_r (nI_1 i) I))) (fun c => nm_r (e' := nI (gv_rd str p (i + 1))) ?_ (nm_r (nI_1 (p + i)) (nm_r (nI_1 i) I)))⟩)
    · rw [nI_clamp (by omega)] at c
      rw [show (2 : Int32) = nI 2 from rfl, pk_mul, Int32.add_zero]
      show _ = nI (gv_rd str p i * 2 + (if str (p + i) = 0 then 0 else 1))
      rw [if_pos c]
      rfl
    · rw [nI_clamp (by omega)] at c
      rw [show (2 : Int32) = nI 2 from rfl, pk_mul, nI_1]
      show _ = nI (gv_rd str p i * 2 + (if str (p + i) = 0 then 0 else 1))
      rw [if_neg c]
theorem gx_rb {post : Int32 → SX → Prop} (w p : Nat) (hw : w < 32) (hp : p + w ≤ 7192) (h : post (nI (gv_rd str p w)) (qu, rg, bf, ph, fc, dc, oc, wp, nI (p + w), oa, na, inp, rec, dcd, typ, ord, mod, vcs, nzs, str, isd, vct, bwd, prd, res, cof, lev)) : wpX_readBits post (qu, rg, bf, ph, fc, dc, oc, wp, nI p, oa, na, inp, rec, dcd, typ, ord, mod, vcs, nzs, str, isd, vct, bwd, prd, res, cof, lev) (nI w) :=
  ⟨w + 1, gx_r4 hw hp h w 0 (w + 1) (by omega) (by omega)⟩
theorem gx_wl34 {post : SX → Prop} {B m : Nat} {V L s0 : gv_F} (hB : B + 222 ≤ 7192) (hL : ∀ k, k < 16 → lev k = L k) (hLb : ∀ k, k < 16 → -4080 ≤ (L k).toInt ∧ (L k).toInt ≤ 4080)
    (h : ∀ S : gv_F, (∀ j, j < B → S j = s0 j) → gv_sq S B = m → (∀ c, c < 4 → gv_sv S B c = V c) → (∀ k, k < 16 → gv_sl S B k = L k) → post (qu, rg, bf, ph, fc, dc, oc, nI (B + 222), rp, oa, na, inp, rec, dcd, typ, ord, mod, vcs, nzs, S, isd, vct, bwd, prd, res, cof, lev)) :
    ∀ d i n, i + d = 16 → d < n → ∀ S : gv_F, (∀ j, j < B → S j = s0 j) → gv_sq S B = m → (∀ c, c < 4 → gv_sv S B c = V c) → (∀ k, k < i → gv_sl S B k = L k) → wX_writeBlock_34 post n (nI i) qu rg bf ph fc dc oc (nI (B + 14 + 13 * i)) rp oa na inp rec dcd typ ord mod vcs nzs S isd vct bwd prd res cof lev := by
  intro d
  induction d with
  | zero =>
    intro i n hi hn S h1 h2 h3 h4
    obtain ⟨n, rfl⟩ : ∃ m, n = m + 1 := ⟨n - 1, by omega⟩
    obtain rfl : i = 16 := by omega
    exact br_t (by decide) (h S h1 h2 h3 h4)
  | succ d ih =>
    intro i n hi hn S h1 h2 h3 h4
    obtain ⟨n, rfl⟩ : ∃ m, n = m + 1 := ⟨n - 1, by omega⟩
    have hb := hLb i (by omega)
    obtain ⟨e1, e2, e3⟩ := gv_lw_e (x := L i) (by omega) (by omega)
    refine br_f (nI_ge (b := 16) (by omega) (by decide)) ⟨vp_in_nI (by omega) (by decide), ?_⟩
    rw [nI_clamp (by omega), hL i (by omega), e1]
    refine gx_wb (gv_lw (L i)) 13 (B + 14 + 13 * i) (by omega) (by decide) (by omega) (nm_r (nI_1 i) ?_)
    have I := ih (i + 1) n (by omega) (by omega) (gv_ws S (B + 14 + 13 * i) (gv_lw (L i)) 13 13)
      (fun j hj => by rw [gv_ws_m (by omega)]; exact h1 j hj)
      (by rw [← h2]; exact gv_rd_lo (P := B + 14) (fun j hj => gv_ws_m (by omega)) (by omega))
      (fun c hc => by rw [← h3 c hc]; unfold gv_sv; rw [gv_rd_lo (S' := S) (P := B + 14) (fun j hj => gv_ws_m (by omega)) (by omega)])
      (fun k hk => by
        by_cases z : k = i
        · subst z
          unfold gv_sl
          rw [gv_rd_ws (by omega)]
          exact e3
        · rw [← h4 k (by omega)]
          unfold gv_sl
          rw [gv_rd_lo (S' := S) (P := B + 14 + 13 * i) (fun j hj => gv_ws_m (by omega)) (by omega)])
    rw [show B + 14 + 13 * (i + 1) = B + 14 + 13 * i + 13 by omega] at I
    exact I
theorem gx_wl8 {post : SX → Prop} {B m : Nat} {V L s0 : gv_F} (hB : B + 222 ≤ 7192) (hV : ∀ c, c < 4 → vct c = V c) (hVb : ∀ c, c < 4 → -2 ≤ (V c).toInt ∧ (V c).toInt ≤ 2) (hL : ∀ k, k < 16 → lev k = L k) (hLb : ∀ k, k < 16 → -4080 ≤ (L k).toInt ∧ (L k).toInt ≤ 4080)
    (h : ∀ S : gv_F, (∀ j, j < B → S j = s0 j) → gv_sq S B = m → (∀ c, c < 4 → gv_sv S B c = V c) → (∀ k, k < 16 → gv_sl S B k = L k) → post (qu, rg, bf, ph, fc, dc, oc, nI (B + 222), rp, oa, na, inp, rec, dcd, typ, ord, mod, vcs, nzs, S, isd, vct, bwd, prd, res, cof, lev)) :
    ∀ d i n, i + d = 4 → d < n → ∀ S : gv_F, (∀ j, j < B → S j = s0 j) → gv_sq S B = m → (∀ c, c < i → gv_sv S B c = V c) → wX_writeBlock_8 post n (nI i) qu rg bf ph fc dc oc (nI (B + 2 + 3 * i)) rp oa na inp rec dcd typ ord mod vcs nzs S isd vct bwd prd res cof lev := by
  intro d
  induction d with
  | zero =>
    intro i n hi hn S h1 h2 h3
    obtain ⟨n, rfl⟩ : ∃ m, n = m + 1 := ⟨n - 1, by omega⟩
    obtain rfl : i = 4 := by omega
    exact br_t (by decide) ⟨17, gx_wl34 hB hL hLb h 16 0 17 rfl (by decide) S h1 h2 h3 (fun k hk => by omega)⟩
  | succ d ih =>
    intro i n hi hn S h1 h2 h3
    obtain ⟨n, rfl⟩ : ∃ m, n = m + 1 := ⟨n - 1, by omega⟩
    have hb := hVb i (by omega)
    obtain ⟨e1, e2, e3⟩ := gv_vw_e (x := V i) (by omega) (by omega)
    refine br_f (nI_ge (b := 4) (by omega) (by decide)) ⟨vp_in_nI (by omega) (by decide), ?_⟩
    rw [nI_clamp (by omega), hV i (by omega), e1]
    refine gx_wb (gv_vw (V i)) 3 (B + 2 + 3 * i) (by omega) (by decide) (by omega) (nm_r (nI_1 i) ?_)
    have I := ih (i + 1) n (by omega) (by omega) (gv_ws S (B + 2 + 3 * i) (gv_vw (V i)) 3 3)
      (fun j hj => by rw [gv_ws_m (by omega)]; exact h1 j hj)
      (by rw [← h2]; exact gv_rd_lo (P := B + 2) (fun j hj => gv_ws_m (by omega)) (by omega))
      (fun k hk => by
        by_cases z : k = i
        · subst z
          unfold gv_sv
          rw [gv_rd_ws (by omega)]
          exact e3
        · rw [← h3 k (by omega)]
          unfold gv_sv
          rw [gv_rd_lo (S' := S) (P := B + 2 + 3 * i) (fun j hj => gv_ws_m (by omega)) (by omega)])
    rw [show B + 2 + 3 * (i + 1) = B + 2 + 3 * i + 3 by omega] at I
    exact I
theorem gx_wblock {post : SX → Prop} {B m : Nat} {V L : gv_F} (hm : m < 4) (hB : B + 222 ≤ 7192) (hV : ∀ c, c < 4 → vct c = V c) (hVb : ∀ c, c < 4 → -2 ≤ (V c).toInt ∧ (V c).toInt ≤ 2) (hL : ∀ k, k < 16 → lev k = L k) (hLb : ∀ k, k < 16 → -4080 ≤ (L k).toInt ∧ (L k).toInt ≤ 4080)
    (h : ∀ S : gv_F, (∀ j, j < B → S j = str j) → gv_sq S B = m → (∀ c, c < 4 → gv_sv S B c = V c) → (∀ k, k < 16 → gv_sl S B k = L k) → post (qu, rg, bf, ph, fc, dc, oc, nI (B + 222), rp, oa, na, inp, rec, dcd, typ, ord, mod, vcs, nzs, S, isd, vct, bwd, prd, res, cof, lev)) :
    wpX_writeBlock post (qu, rg, bf, ph, fc, dc, oc, nI B, rp, oa, na, inp, rec, dcd, typ, ord, mod, vcs, nzs, str, isd, vct, bwd, prd, res, cof, lev) (nI m) :=
  gx_wb m 2 B (by omega) (by decide) (by omega) ⟨5, gx_wl8 hB hV hVb hL hLb h 4 0 5 rfl (by decide) _ (fun j hj => gv_ws_m (by omega)) (gv_rd_ws (by omega)) (fun c hc => by omega)⟩
theorem gx_rl34 {post : Int32 → SX → Prop} {B : Nat} {x1 : Int32} (hB : B + 222 ≤ 7192) (h : post x1 (qu, rg, bf, ph, fc, dc, oc, wp, nI (B + 222), oa, na, inp, rec, dcd, typ, ord, mod, vcs, nzs, str, isd, vct, bwd, prd, res, cof, gv_wi lev (gv_sl str B) 16)) :
    ∀ d i n, i + d = 16 → d < n → wX_readBlock_34 post x1 n (nI i) qu rg bf ph fc dc oc wp (nI (B + 14 + 13 * i)) oa na inp rec dcd typ ord mod vcs nzs str isd vct bwd prd res cof (gv_wi lev (gv_sl str B) i) := by
  intro d
  induction d with
  | zero =>
    intro i n hi hn
    obtain ⟨n, rfl⟩ : ∃ m, n = m + 1 := ⟨n - 1, by omega⟩
    obtain rfl : i = 16 := by omega
    exact br_t (by decide) h
  | succ d ih =>
    intro i n hi hn
    obtain ⟨n, rfl⟩ : ∃ m, n = m + 1 := ⟨n - 1, by omega⟩
    have I := ih (i + 1) n (by omega) (by omega)
    rw [show B + 14 + 13 * (i + 1) = B + 14 + 13 * i + 13 by omega] at I
    refine br_f (nI_ge (b := 16) (by omega) (by decide)) (gx_rb 13 (B + 14 + 13 * i) (by decide) (by omega) ⟨vp_in_nI (by omega) (by decide), nm_r (e' := gv_wi lev (gv_sl str B) (i + 1)) ?_ (nm_r (nI_1 i) I)⟩)
    rw [nI_clamp (by omega)]
    rfl
theorem gx_rl8 {post : Int32 → SX → Prop} {B : Nat} {x1 : Int32} (hB : B + 222 ≤ 7192) (h : post x1 (qu, rg, bf, ph, fc, dc, oc, wp, nI (B + 222), oa, na, inp, rec, dcd, typ, ord, mod, vcs, nzs, str, isd, gv_wi vct (gv_sv str B) 4, bwd, prd, res, cof, gv_wi lev (gv_sl str B) 16)) :
    ∀ d i n, i + d = 4 → d < n → wX_readBlock_8 post x1 n (nI i) qu rg bf ph fc dc oc wp (nI (B + 2 + 3 * i)) oa na inp rec dcd typ ord mod vcs nzs str isd (gv_wi vct (gv_sv str B) i) bwd prd res cof lev := by
  intro d
  induction d with
  | zero =>
    intro i n hi hn
    obtain ⟨n, rfl⟩ : ∃ m, n = m + 1 := ⟨n - 1, by omega⟩
    obtain rfl : i = 4 := by omega
    exact br_t (by decide) ⟨17, gx_rl34 hB h 16 0 17 rfl (by decide)⟩
  | succ d ih =>
    intro i n hi hn
    obtain ⟨n, rfl⟩ : ∃ m, n = m + 1 := ⟨n - 1, by omega⟩
    have I := ih (i + 1) n (by omega) (by omega)
    rw [show B + 2 + 3 * (i + 1) = B + 2 + 3 * i + 3 by omega] at I
    refine br_f (nI_ge (b := 4) (by omega) (by decide)) (gx_rb 3 (B + 2 + 3 * i) (by decide) (by omega) ⟨vp_in_nI (by omega) (by decide), nm_r (e' := gv_wi vct (gv_sv str B) (i + 1)) ?_ (nm_r (nI_1 i) I)⟩)
    rw [nI_clamp (by omega)]
    rfl
theorem gx_rblock {post : Int32 → SX → Prop} {B : Nat} (hB : B + 222 ≤ 7192) (h : ∀ V L : gv_F, (∀ c, c < 4 → V c = gv_sv str B c) → (∀ k, k < 16 → L k = gv_sl str B k) → post (nI (gv_sq str B)) (qu, rg, bf, ph, fc, dc, oc, wp, nI (B + 222), oa, na, inp, rec, dcd, typ, ord, mod, vcs, nzs, str, isd, V, bwd, prd, res, cof, L)) : wpX_readBlock post (qu, rg, bf, ph, fc, dc, oc, wp, nI B, oa, na, inp, rec, dcd, typ, ord, mod, vcs, nzs, str, isd, vct, bwd, prd, res, cof, lev) :=
  gx_rb 2 B (by decide) (by omega) ⟨5, gx_rl8 hB (h _ _ (fun c hc => gv_wi_h hc) (fun k hk => gv_wi_h hk)) 4 0 5 rfl (by decide)⟩
end
end
section
/-! X: types, order, anchors, startDecoder, release -/
theorem gv_m1 {n : Nat} (h : 1 ≤ n) : nI n - 1 = nI (n - 1) := by rw [show (1 : Int32) = nI 1 from rfl, pk_sub h]
theorem gv_rem {i mb : Nat} (hi : i < 8) (hm : mb < 4) : nI i - nI i / (nI mb + 1) * (nI mb + 1) = nI (i % (mb + 1)) := by rw [nI_1]; exact pk_rem (by omega) (by omega) (by omega)
theorem gv_ty_a {mb n k : Nat} (h0 : k ≠ 0) (h : k % (mb + 1) = 0 ∨ k = n - 1) : gv_ty mb n k = 1 := by unfold gv_ty; rw [if_neg h0, if_pos h]
theorem gv_ty_b {mb n k : Nat} (h0 : k ≠ 0) (h : ¬ (k % (mb + 1) = 0 ∨ k = n - 1)) : gv_ty mb n k = 2 := by unfold gv_ty; rw [if_neg h0, if_neg h]
theorem gv_ty2 {mb n k : Nat} : nI (gv_ty mb n k) = 2 ↔ gv_ty mb n k = 2 := by
  have := gv_ty_3 mb n k
  exact nI_eq (b := 2) (by omega) (by decide)
theorem gv_ty1 {mb n k : Nat} : nI (gv_ty mb n k) = 1 ↔ gv_ty mb n k = 1 := by
  have := gv_ty_3 mb n k
  exact nI_eq (b := 1) (by omega) (by decide)
theorem gv_ty0 {mb n k : Nat} : nI (gv_ty mb n k) = 0 ↔ gv_ty mb n k = 0 := by
  have := gv_ty_3 mb n k
  exact nI_eq (b := 0) (by omega) (by decide)
def gv_T (mb n : Nat) : gv_F := fun k => nI (gv_ty mb n k)
def gv_O (mb n : Nat) : gv_F := fun k => nI (gv_od mb n k)
section
variable {qu rg bf ph fc dc oc wp rp oa na : Int32} {inp rec dcd typ ord mod vcs nzs str isd vct bwd prd res cof lev : Nat → Int32}
variable {mb N : Nat}
theorem gx_ty9 {post : SX → Prop} (hm : mb < 4) (hN : N < 9) (h : post (qu, rg, nI mb, ph, nI N, dc, oc, wp, rp, oa, na, inp, rec, dcd, gv_wi typ (gv_T mb N) N, ord, mod, vcs, nzs, str, isd, vct, bwd, prd, res, cof, lev)) :
    ∀ d i n, i + d = N → d < n → 1 ≤ i → wX_fixTypes_9 post qu rg (nI mb) ph (nI N) dc oc wp rp oa na n (nI i) inp rec dcd (gv_wi typ (gv_T mb N) i) ord mod vcs nzs str isd vct bwd prd res cof lev := by
  intro d
  induction d with
  | zero =>
    intro i n hi hn h1
    obtain ⟨n, rfl⟩ : ∃ m, n = m + 1 := ⟨n - 1, by omega⟩
    obtain rfl : i = N := by omega
    exact br_t (nI_le (Nat.le_refl _) (by omega)) h
  | succ d ih =>
    intro i n hi hn h1
    obtain ⟨n, rfl⟩ : ∃ m, n = m + 1 := ⟨n - 1, by omega⟩
    have I := ih (i + 1) n (by omega) (by omega) (by omega)
    have er := gv_rem (i := i) (mb := mb) (by omega) hm
    have hv : vp_in (nI i) 8 := vp_in_nI (by omega) (by decide)
    have e2 : nI N - 1 = nI (N - 1) := gv_m1 (by omega)
    have P1 : (i % (mb + 1) = 0 ∨ i = N - 1) → wX_fixTypes_43 post (wX_fixTypes_9 post qu rg (nI mb) ph (nI N) dc oc wp rp oa na n) (nI i) 1 qu rg (nI mb) ph (nI N) dc oc wp rp oa na inp rec dcd (gv_wi typ (gv_T mb N) i) ord mod vcs nzs str isd vct bwd prd res cof lev := by
      intro c
      refine br_f (by decide) ⟨hv, nm_r (e' := gv_wi typ (gv_T mb N) (i + 1)) ?_ (nm_r (nI_1 i) I)⟩
      rw [nI_clamp (by omega)]
      show _ = upd _ i (nI (gv_ty mb N i))
      rw [gv_ty_a (by omega) c]
      rfl
    refine br_f (nI_ge (by omega) (by omega)) ⟨by rw [nI_1]; exact nI_ne0 (by omega) (by omega), ?_⟩
    by_cases c1 : i % (mb + 1) = 0
    · refine br_t (by rw [er, c1]; rfl) ?_
      exact P1 (Or.inl c1)
    · refine br_f (by rw [er]; exact nI_ne0 (by omega) (Nat.lt_of_le_of_lt (Nat.mod_le _ _) (by omega))) ?_
      by_cases c2 : i = N - 1
      · refine br_t (by rw [e2, c2]) ?_
        exact P1 (Or.inr c2)
      · refine br_f (by rw [e2, nI_eq (by omega) (by omega)]; exact c2) (br_t rfl ⟨hv, nm_r (e' := gv_wi typ (gv_T mb N) (i + 1)) ?_ (nm_r (nI_1 i) I)⟩)
        rw [nI_clamp (by omega)]
        show _ = upd _ i (nI (gv_ty mb N i))
        rw [gv_ty_b (by omega) (by omega)]
        rfl
theorem gx_types {post : SX → Prop} (hm : mb < 4) (hN : N < 9) (h1 : 1 ≤ N) (h : post (qu, rg, nI mb, ph, nI N, dc, oc, wp, rp, oa, na, inp, rec, dcd, gv_wi typ (gv_T mb N) N, ord, mod, vcs, nzs, str, isd, vct, bwd, prd, res, cof, lev)) : wpX_fixTypes post (qu, rg, nI mb, ph, nI N, dc, oc, wp, rp, oa, na, inp, rec, dcd, typ, ord, mod, vcs, nzs, str, isd, vct, bwd, prd, res, cof, lev) :=
  nm_r (e' := gv_wi typ (gv_T mb N) 1) rfl ⟨N + 1, gx_ty9 hm hN h (N - 1) 1 (N + 1) (by omega) (by omega) (by omega)⟩
theorem gx_o46 {post : SX → Prop} {JJ : Int32 → Int32 → Int32 → gv_F → gv_F → gv_F → gv_F → gv_F → gv_F → gv_F → gv_F → gv_F → gv_F → gv_F → gv_F → gv_F → gv_F → gv_F → gv_F →  Prop} {a : Nat} (ha : a < 8) (h : JJ (nI (a + 1)) (nI a) (nI (a + 1)) inp rec dcd typ (gv_wi ord (gv_O mb N) (a + 1)) mod vcs nzs str isd vct bwd prd res cof lev) :
    ∀ d k n, k + d = a → d < n → (∀ j, k ≤ j → j < a → gv_ty mb N j = 2) → wX_fixOrder_46 post JJ (nI a) qu rg bf ph fc dc oc wp rp oa na n (nI (k + 1)) (nI k) inp rec dcd typ (gv_wi ord (gv_O mb N) (k + 1)) mod vcs nzs str isd vct bwd prd res cof lev := by
  intro d
  induction d with
  | zero =>
    intro k n hk hn hB
    obtain ⟨n, rfl⟩ : ∃ m, n = m + 1 := ⟨n - 1, by omega⟩
    obtain rfl : k = a := by omega
    exact br_t (nI_le (Nat.le_refl _) (by omega)) (nm_r (nI_1 k) h)
  | succ d ih =>
    intro k n hk hn hB
    obtain ⟨n, rfl⟩ : ∃ m, n = m + 1 := ⟨n - 1, by omega⟩
    refine br_f (nI_ge (by omega) (by omega)) ⟨vp_in_nI (by omega) (by decide), nm_r (e' := gv_wi ord (gv_O mb N) (k + 1 + 1)) ?_ (nm_r (nI_1 (k + 1)) (nm_r (nI_1 k) (ih (k + 1) n (by omega) (by omega) (fun j h1 h2 => hB j (by omega) h2))))⟩
    rw [nI_clamp (by omega)]
    show _ = upd _ (k + 1) (nI (if gv_ty mb N k = 2 then k else gv_na mb N k))
    rw [if_pos (hB k (by omega) (by omega))]
    rfl
theorem gx_o13 {post : SX → Prop} (hN : N < 9) (hT : ∀ k, k < N → typ k = nI (gv_ty mb N k)) (h : post (qu, rg, bf, ph, nI N, dc, oc, wp, rp, oa, na, inp, rec, dcd, typ, gv_wi ord (gv_O mb N) N, mod, vcs, nzs, str, isd, vct, bwd, prd, res, cof, lev)) :
    ∀ d a n, a + d = N → d < n → ∀ p, p < a → (∀ j, p < j → j < a → gv_ty mb N j = 2) → gv_ty mb N p ≠ 2 → wX_fixOrder_13 post qu rg bf ph (nI N) dc oc wp rp oa na n (nI (p + 1)) (nI p) (nI a) inp rec dcd typ (gv_wi ord (gv_O mb N) (p + 1)) mod vcs nzs str isd vct bwd prd res cof lev := by
  intro d
  induction d with
  | zero =>
    intro a n ha hn p hp hB hA
    obtain ⟨n, rfl⟩ : ∃ m, n = m + 1 := ⟨n - 1, by omega⟩
    obtain rfl : a = N := by omega
    obtain rfl : a = p + 1 := by
      rcases Nat.lt_or_ge p (a - 1) with z | z
      · exact absurd (hB (a - 1) z (by omega)) gv_ty_l
      · omega
    exact br_t (nI_le (Nat.le_refl _) (by omega)) h
  | succ d ih =>
    intro a n ha hn p hp hB hA
    obtain ⟨n, rfl⟩ : ∃ m, n = m + 1 := ⟨n - 1, by omega⟩
    have ht : typ (nI a).toNatClampNeg = nI (gv_ty mb N a) := by rw [nI_clamp (by omega)]; exact hT a (by omega)
    refine br_f (nI_ge (by omega) (by omega)) ⟨vp_in_nI (by omega) (by decide), ?_⟩
    by_cases c : gv_ty mb N a = 2
    · refine br_t (by rw [ht, c]; rfl) (nm_r (nI_1 a) (ih (a + 1) n (by omega) (by omega) p (by omega) (fun j h1 h2 => ?_) hA))
      by_cases z : j = a
      · rw [z]; exact c
      · exact hB j h1 (by omega)
    · refine br_f (by rw [ht, gv_ty2]; exact c) ⟨vp_in_nI (by omega) (by decide), nm_r (e' := gv_wi ord (gv_O mb N) (p + 1 + 1)) ?_ (nm_r (nI_1 (p + 1)) (nm_r (nI_1 p) ⟨9, gx_o46 (by omega) (ih (a + 1) n (by omega) (by omega) a (by omega) (fun j h1 h2 => by omega) c) (a - (p + 1)) (p + 1) 9 (by omega) (by omega) (fun j h1 h2 => hB j (by omega) h2)⟩))⟩
      rw [nI_clamp (by omega)]
      show _ = upd _ (p + 1) (nI (if gv_ty mb N p = 2 then p else gv_na mb N p))
      rw [if_neg hA, gv_na_e c hp (by omega) hB]
      rfl
theorem gx_order {post : SX → Prop} (hN : N < 9) (h1 : 1 ≤ N) (hT : ∀ k, k < N → typ k = nI (gv_ty mb N k)) (h : post (qu, rg, bf, ph, nI N, dc, oc, wp, rp, oa, na, inp, rec, dcd, typ, gv_wi ord (gv_O mb N) N, mod, vcs, nzs, str, isd, vct, bwd, prd, res, cof, lev)) : wpX_fixOrder post (qu, rg, bf, ph, nI N, dc, oc, wp, rp, oa, na, inp, rec, dcd, typ, ord, mod, vcs, nzs, str, isd, vct, bwd, prd, res, cof, lev) :=
  nm_r (e' := gv_wi ord (gv_O mb N) 1) rfl ⟨N + 1, gx_o13 hN hT h (N - 1) 1 (N + 1) (by omega) (by omega) 0 (by omega) (fun j a b => by omega) (fun z => by cases z)⟩
theorem gx_ab4 {post : Int32 → Prop} {f : Nat} (hN : N < 9) (hf : f < N) (hT : ∀ k, k < N → typ k = nI (gv_ty mb N k)) (h : post (nI (gv_pa mb N f))) :
    ∀ d i n, i + d = f → d < n → wX_anchorBefore_4 post (nI f) qu rg bf ph fc dc oc wp rp oa na inp rec dcd typ ord mod vcs nzs str isd vct bwd prd res cof lev n (nI (gv_pa mb N i)) (nI i) := by
  intro d
  induction d with
  | zero =>
    intro i n hi hn
    obtain ⟨n, rfl⟩ : ∃ m, n = m + 1 := ⟨n - 1, by omega⟩
    obtain rfl : i = f := by omega
    exact br_t (nI_le (Nat.le_refl _) (by omega)) h
  | succ d ih =>
    intro i n hi hn
    obtain ⟨n, rfl⟩ : ∃ m, n = m + 1 := ⟨n - 1, by omega⟩
    have ht : typ (nI i).toNatClampNeg = nI (gv_ty mb N i) := by rw [nI_clamp (by omega)]; exact hT i (by omega)
    have I := ih (i + 1) n (by omega) (by omega)
    rw [show gv_pa mb N (i + 1) = if gv_ty mb N i = 2 then gv_pa mb N i else i from rfl] at I
    refine br_f (nI_ge (by omega) (by omega)) ⟨vp_in_nI (by omega) (by decide), br_c (fun c => nm_r (nI_1 i) ?_) (fun c => nm_r (nI_1 i) ?_)⟩
    · rw [ht, gv_ty2] at c
      rw [if_pos c] at I
      exact I
    · rw [ht, gv_ty2] at c
      rw [if_neg c] at I
      exact I
theorem gx_before {post : Int32 → Prop} {f : Nat} (hN : N < 9) (hf : f < N) (hT : ∀ k, k < N → typ k = nI (gv_ty mb N k)) (h : post (nI (gv_pa mb N f))) : wpX_anchorBefore post (qu, rg, bf, ph, fc, dc, oc, wp, rp, oa, na, inp, rec, dcd, typ, ord, mod, vcs, nzs, str, isd, vct, bwd, prd, res, cof, lev) (nI f) := by
  rcases Nat.eq_zero_or_pos f with rfl | z
  · exact ⟨1, br_t (by decide) h⟩
  · exact ⟨9, gx_ab4 (mb := mb) hN hf hT h (f - 1) 1 9 (by omega) (by omega)⟩
theorem gx_aa14 {post : Int32 → Prop} {f : Nat} (hN : N < 9) (hT : ∀ k, k < N → typ k = nI (gv_ty mb N k)) (h : post (nI (gv_na mb N f))) :
    ∀ d k n, k = f + d → k < N → d < n → wX_anchorAfter_14 post (nI f) qu rg bf ph fc dc oc wp rp oa na inp rec dcd typ ord mod vcs nzs str isd vct bwd prd res cof lev n (nI (gv_na mb N k)) (nI k) := by
  intro d
  induction d with
  | zero =>
    intro k n hk hN' hn
    obtain ⟨n, rfl⟩ : ∃ m, n = m + 1 := ⟨n - 1, by omega⟩
    obtain rfl : k = f := by omega
    exact br_t (nI_le (Nat.le_refl _) (by omega)) h
  | succ d ih =>
    intro k n hk hN' hn
    obtain ⟨n, rfl⟩ : ∃ m, n = m + 1 := ⟨n - 1, by omega⟩
    obtain ⟨k, rfl⟩ : ∃ j, k = j + 1 := ⟨k - 1, by omega⟩
    have ht : typ (nI (k + 1)).toNatClampNeg = nI (gv_ty mb N (k + 1)) := by rw [nI_clamp (by omega)]; exact hT _ (by omega)
    have I := ih k n (by omega) (by omega) (by omega)
    rw [show gv_na mb N k = if gv_ty mb N (k + 1) = 2 then gv_na mb N (k + 1) else k + 1 by
      unfold gv_na
      rw [show N - (k + 1) = (N - (k + 1 + 1)) + 1 by omega]
      rfl] at I
    refine br_f (nI_ge (by omega) (by omega)) ⟨vp_in_nI (by omega) (by decide), br_c (fun c => nm_r (pk_m1 k) ?_) (fun c => nm_r (pk_m1 k) ?_)⟩
    · rw [ht, gv_ty2] at c
      rw [if_pos c] at I
      exact I
    · rw [ht, gv_ty2] at c
      rw [if_neg c] at I
      exact I
theorem gx_after {post : Int32 → Prop} {f : Nat} (hN : N < 9) (hf : f < N) (hT : ∀ k, k < N → typ k = nI (gv_ty mb N k)) (h : post (nI (gv_na mb N f))) : wpX_anchorAfter post (qu, rg, bf, ph, nI N, dc, oc, wp, rp, oa, na, inp, rec, dcd, typ, ord, mod, vcs, nzs, str, isd, vct, bwd, prd, res, cof, lev) (nI f) := by
  have e : gv_na mb N (N - 1) = N - 1 := by
    unfold gv_na
    rw [show N - (N - 1 + 1) = 0 by omega]
    rfl
  have I := gx_aa14 (mb := mb) (qu := qu) (rg := rg) (bf := bf) (ph := ph) (fc := nI N) (dc := dc) (oc := oc) (wp := wp) (rp := rp) (oa := oa) (na := na) (inp := inp) (rec := rec) (dcd := dcd) (typ := typ) (ord := ord) (mod := mod) (vcs := vcs) (nzs := nzs) (str := str) (isd := isd) (vct := vct) (bwd := bwd) (prd := prd) (res := res) (cof := cof) (lev := lev) hN hT h (N - 1 - f) (N - 1) 9 (by omega) (by omega) (by omega)
  rw [e] at I
  exact nm_r (gv_m1 (by omega)) (nm_r (gv_m1 (by omega)) ⟨9, I⟩)
theorem gx_sd {post : SX → Prop} (h : post (qu, rg, bf, ph, fc, dc, oc, wp, rp, oa, na, inp, rec, dcd, typ, ord, mod, vcs, nzs, str, gv_wi isd (fun _ => 0) 8, vct, bwd, prd, res, cof, lev)) :
    ∀ d i n, i + d = 8 → d < n → wX_startDecoder_27 post qu rg bf ph fc dc oc wp rp oa na n (nI i) inp rec dcd typ ord mod vcs nzs str (gv_wi isd (fun _ => 0) i) vct bwd prd res cof lev := by
  intro d
  induction d with
  | zero =>
    intro i n hi hn
    obtain ⟨n, rfl⟩ : ∃ m, n = m + 1 := ⟨n - 1, by omega⟩
    obtain rfl : i = 8 := by omega
    exact br_t (by decide) h
  | succ d ih =>
    intro i n hi hn
    obtain ⟨n, rfl⟩ : ∃ m, n = m + 1 := ⟨n - 1, by omega⟩
    refine br_f (nI_ge (b := 8) (by omega) (by decide)) ⟨vp_in_nI (by omega) (by decide), nm_r (e' := gv_wi isd (fun _ => 0) (i + 1)) ?_ (nm_r (nI_1 i) (ih (i + 1) n (by omega) (by omega)))⟩
    rw [nI_clamp (by omega), gv_b0]
    rfl
theorem gx_start {post : SX → Prop} (h : post (qu, rg, bf, ph, fc, 0, 0, wp, 0, 0, 0, inp, rec, dcd, typ, ord, mod, vcs, nzs, str, gv_wi isd (fun _ => 0) 8, vct, bwd, prd, res, cof, lev)) : wpX_startDecoder post (qu, rg, bf, ph, fc, dc, oc, wp, rp, oa, na, inp, rec, dcd, typ, ord, mod, vcs, nzs, str, isd, vct, bwd, prd, res, cof, lev) :=
  ⟨9, gx_sd h 8 0 9 rfl (by decide)⟩
theorem gx_rel0 {post : SX → Prop} {Dn : Nat → Bool} (hN : N < 9) (hD : ∀ k, k < 8 → (isd k = 0 ↔ Dn k = false))
    (h : ∀ o, o ≤ N → (∀ k, k < o → Dn k = true) → (o < N → Dn o = false) → post (qu, rg, bf, ph, nI N, dc, nI o, wp, rp, oa, na, inp, rec, dcd, typ, ord, mod, vcs, nzs, str, isd, vct, bwd, prd, res, cof, lev)) :
    ∀ d o n, o + d = N → d < n → (∀ k, k < o → Dn k = true) → wX_release_0 post qu rg bf ph (nI N) dc wp rp oa na inp rec dcd typ ord mod vcs nzs str isd vct bwd prd res cof lev n (nI o) := by
  intro d
  induction d with
  | zero =>
    intro o n hi hn ho
    obtain ⟨n, rfl⟩ : ∃ m, n = m + 1 := ⟨n - 1, by omega⟩
    obtain rfl : o = N := by omega
    exact br_t (nI_le (Nat.le_refl _) (by omega)) (h o (Nat.le_refl _) ho (fun z => by omega))
  | succ d ih =>
    intro o n hi hn ho
    obtain ⟨n, rfl⟩ : ∃ m, n = m + 1 := ⟨n - 1, by omega⟩
    have e : isd (nI o).toNatClampNeg = 0 ↔ Dn o = false := by rw [nI_clamp (by omega)]; exact hD o (by omega)
    refine br_f (nI_ge (by omega) (by omega)) ⟨vp_in_nI (by omega) (by decide), br_c (fun c => h o (by omega) ho (fun _ => e.mp c)) (fun c => nm_r (nI_1 o) (ih (o + 1) n (by omega) (by omega) (fun k hk => ?_)))⟩
    by_cases z : k = o
    · subst z
      cases q : Dn k with
      | true => rfl
      | false => exact absurd (e.mpr q) c
    · exact ho k (by omega)
theorem gx_release {post : SX → Prop} {Dn : Nat → Bool} {o : Nat} (hN : N < 9) (ho : o ≤ N) (hD : ∀ k, k < 8 → (isd k = 0 ↔ Dn k = false)) (h0 : ∀ k, k < o → Dn k = true)
    (h : ∀ o, o ≤ N → (∀ k, k < o → Dn k = true) → (o < N → Dn o = false) → post (qu, rg, bf, ph, nI N, dc, nI o, wp, rp, oa, na, inp, rec, dcd, typ, ord, mod, vcs, nzs, str, isd, vct, bwd, prd, res, cof, lev)) : wpX_release post (qu, rg, bf, ph, nI N, dc, nI o, wp, rp, oa, na, inp, rec, dcd, typ, ord, mod, vcs, nzs, str, isd, vct, bwd, prd, res, cof, lev) :=
  ⟨N + 1, gx_rel0 hN hD h (N - o) o (N + 1) (by omega) (by omega) h0⟩
end
end
section
/-! X: searchMotion, chooseMode, dropUnusedVectors -/
def gv_XS (C L : gv_F) (r at' : Nat) (v0 : gv_F) (i : Nat) (x5 x6 : Int32) (v : gv_F) : Prop :=
  ((i = 0 ∧ x5 = 1000000) ∨ (0 < i ∧ x5 = C (gv_bi C L i) ∧ x6 = L (gv_bi C L i) ∧ v at' = gv_vx r (gv_bi C L i) ∧ v (at' + 1) = gv_vy r (gv_bi C L i))) ∧ ∀ c, c ≠ at' → c ≠ at' + 1 → v c = v0 c
theorem gv_XS_t {C L : gv_F} {r at' i : Nat} {v0 v : gv_F} {x5 x6 : Int32} (H : gv_XS C L r at' v0 i x5 x6 v) (c : C i < x5 ∨ (C i = x5 ∧ L i < x6)) :
    gv_XS C L r at' v0 (i + 1) (C i) (L i) (upd (upd v at' (gv_vx r i)) (at' + 1) (gv_vy r i)) := by
  obtain ⟨H, K⟩ := H
  have e : gv_bi C L (i + 1) = i := by
    rcases H with ⟨rfl, -⟩ | ⟨h0, rfl, rfl, -, -⟩
    · rfl
    · exact gv_bi_t (by omega) c
  refine ⟨Or.inr ⟨by omega, ?_⟩, fun k h1 h2 => ?_⟩
  · rw [e]
    exact ⟨rfl, rfl, by rw [pk_un (by omega), pk_us], pk_us⟩
  · rw [pk_un h2, pk_un h1]; exact K k h1 h2
theorem gv_XS_k {C L : gv_F} {r at' i : Nat} {v0 v : gv_F} {x5 x6 : Int32} (hC : (C i).toInt ≤ 4080) (H : gv_XS C L r at' v0 i x5 x6 v) (c : ¬ (C i < x5 ∨ (C i = x5 ∧ L i < x6))) :
    gv_XS C L r at' v0 (i + 1) x5 x6 v := by
  obtain ⟨H, K⟩ := H
  refine ⟨?_, K⟩
  rcases H with ⟨rfl, e⟩ | ⟨h0, h1, h2, h3, h4⟩
  · refine absurd (Or.inl ?_) c
    rw [e, gv_lt, show (1000000 : Int32).toInt = 1000000 from by decide]
    omega
  · have e : gv_bi C L (i + 1) = gv_bi C L i := by
      subst h1 h2
      exact gv_bi_f (by omega) c
    rw [e]
    exact Or.inr ⟨by omega, h1, h2, h3, h4⟩
theorem gv_vr : ∀ r, r < 3 → ∀ j, j < 2 * r + 2 → (nI r < nI j - nI r ↔ 2 * r < j) := by decide +kernel
theorem gv_v1 : ∀ r, r < 3 → ∀ j, j < 6 → (nI j - nI r) + 1 = nI (j + 1) - nI r := by decide +kernel
theorem gv_v0 : ∀ r, r < 3 → -nI r = nI 0 - nI r := by decide +kernel
theorem gv_vxe {r a j : Nat} (hj : j < 2 * r + 1) : gv_vx r (a * (2 * r + 1) + j) = nI j - nI r ∧ gv_vy r (a * (2 * r + 1) + j) = nI a - nI r := by
  unfold gv_vx gv_vy
  have e1 : (a * (2 * r + 1) + j) % (2 * r + 1) = j := by rw [Nat.mul_comm, Nat.mul_add_mod, Nat.mod_eq_of_lt hj]
  have e2 : (a * (2 * r + 1) + j) / (2 * r + 1) = a := by
    rw [Nat.mul_comm, Nat.mul_add_div (by omega), Nat.div_eq_of_lt hj, Nat.add_zero]
  rw [e1, e2]
  exact ⟨rfl, rfl⟩
section
variable {qu rg bf ph fc dc oc wp rp oa na : Int32} {inp rec dcd typ ord mod vcs nzs str isd vct bwd prd res cof lev : Nat → Int32}
variable {r f b s A : Nat}
theorem gx_s30 {post : Int32 → SX → Prop} {JJ : Int32 → Int32 → Int32 → Int32 → Int32 → Int32 → Int32 → Int32 → Int32 → Int32 → Int32 → Int32 → Int32 → Int32 →  gv_F → gv_F → gv_F → gv_F → gv_F → gv_F → gv_F → gv_F → gv_F → gv_F → gv_F → gv_F → gv_F → gv_F → gv_F → gv_F →  Prop} {a : Nat} {v0 : gv_F} (hr : r < 3) (hf : f < 8) (hb : b < 4) (hs : s < 8) (hA : A + 1 < 4) (ha : a < 2 * r + 1) (hi : gv_P inp) (hR : gv_P rec)
    (h : ∀ (x5 x6 : Int32) (v P : gv_F), gv_XS (gv_sc inp rec r s f b) (gv_ln r) r A v0 ((a + 1) * (2 * r + 1)) x5 x6 v → JJ x5 x6 (nI (a + 1) - nI r) qu (nI r) bf ph fc dc oc wp rp oa na inp rec dcd typ ord mod vcs nzs str isd v bwd P res cof lev) :
    ∀ d j n, j + d = 2 * r + 1 → d < n → ∀ (x5 x6 : Int32) (v P : gv_F), gv_XS (gv_sc inp rec r s f b) (gv_ln r) r A v0 (a * (2 * r + 1) + j) x5 x6 v →
      wX_searchMotion_30 post JJ (nI f) (nI b) (nI s) (nI A) (nI a - nI r) n x5 x6 (nI j - nI r) qu (nI r) bf ph fc dc oc wp rp oa na inp rec dcd typ ord mod vcs nzs str isd v bwd P res cof lev := by
  intro d
  induction d with
  | zero =>
    intro j n hj hn x5 x6 v P H
    obtain ⟨n, rfl⟩ : ∃ m, n = m + 1 := ⟨n - 1, by omega⟩
    obtain rfl : j = 2 * r + 1 := by omega
    rw [show a * (2 * r + 1) + (2 * r + 1) = (a + 1) * (2 * r + 1) from (Nat.succ_mul _ _).symm] at H
    exact br_t ((gv_vr r hr _ (by omega)).mpr (by omega)) (nm_r (gv_v1 r hr a (by omega)) (h x5 x6 v P H))
  | succ d ih =>
    intro j n hj hn x5 x6 v P H
    obtain ⟨n, rfl⟩ : ∃ m, n = m + 1 := ⟨n - 1, by omega⟩
    obtain ⟨ex, ey⟩ := gv_vxe (r := r) (a := a) (j := j) (by omega)
    have e8 := gv_v1 r hr j (by omega)
    have hC := (gv_sc_b hi hR r s f b (a * (2 * r + 1) + j)).2
    have I := fun x5 x6 v P => ih (j + 1) n (by omega) (by omega) x5 x6 v P
    rw [← Nat.add_assoc] at I
    refine br_f (fun z => by have := (gv_vr r hr j (by omega)).mp z; omega) (gx_fetch_recon_prediction hs hb (fun P' hP' => gx_cost hf hb hP' (gx_abs (gx_abs (nm_e ?_)))))
    have eC : gv_ct inp f b (gv_ft rec s b (nI j - nI r) (nI a - nI r)) = gv_sc inp rec r s f b (a * (2 * r + 1) + j) := by
      unfold gv_sc; rw [ex, ey]
    have eL : gv_ab (nI j - nI r) + gv_ab (nI a - nI r) = gv_ln r (a * (2 * r + 1) + j) := by
      unfold gv_ln; rw [ex, ey]
    rw [eC, eL]
    have T := @gv_XS_t _ _ r A _ v0 v x5 x6 H
    have K := @gv_XS_k _ _ r A _ v0 v x5 x6 hC H
    rw [ex, ey] at T
    have W : (gv_sc inp rec r s f b (a * (2 * r + 1) + j) < x5 ∨ (gv_sc inp rec r s f b (a * (2 * r + 1) + j) = x5 ∧ gv_ln r (a * (2 * r + 1) + j) < x6)) → wX_searchMotion_98 post JJ (wX_searchMotion_30 post JJ (nI f) (nI b) (nI s) (nI A) (nI a - nI r) n) (nI f) (nI b) (nI s) (nI A) (nI a - nI r) (nI j - nI r) (gv_sc inp rec r s f b (a * (2 * r + 1) + j)) (gv_ln r (a * (2 * r + 1) + j)) qu (nI r) bf ph fc dc oc wp rp oa na inp rec dcd typ ord mod vcs nzs str isd v bwd P' res cof lev := by
      intro c
      refine ⟨vp_in_nI (by omega) (by decide), nm_r (e' := upd v A (nI j - nI r)) (by rw [nI_clamp (by omega)]) ⟨by rw [nI_1]; exact vp_in_nI hA (by decide), nm_r (e' := upd (upd v A (nI j - nI r)) (A + 1) (nI a - nI r)) (by rw [nI_1, nI_clamp (by omega)]) (nm_r e8 (I _ _ _ _ (T c)))⟩⟩
    refine br_c (fun c1 => W (Or.inl c1)) (fun c1 => br_c (fun c2 => br_c (fun c3 => nm_r e8 (I _ _ _ _ (K ?_))) (fun c3 => W (Or.inr ⟨c2, Int32.not_le.mp c3⟩))) (fun c2 => nm_r e8 (I _ _ _ _ (K ?_))))
    · rintro (z | ⟨-, z⟩)
      · exact c1 z
      · exact Int32.not_lt.mpr c3 z
    · rintro (z | ⟨z, -⟩)
      · exact c1 z
      · exact c2 z
theorem gx_s14 {post : Int32 → SX → Prop} {v0 : gv_F} (hr : r < 3) (hf : f < 8) (hb : b < 4) (hs : s < 8) (hA : A + 1 < 4) (hi : gv_P inp) (hR : gv_P rec)
    (h : ∀ (x5 x6 : Int32) (v P : gv_F), gv_XS (gv_sc inp rec r s f b) (gv_ln r) r A v0 ((2 * r + 1) * (2 * r + 1)) x5 x6 v → post x5 (qu, nI r, bf, ph, fc, dc, oc, wp, rp, oa, na, inp, rec, dcd, typ, ord, mod, vcs, nzs, str, isd, v, bwd, P, res, cof, lev)) :
    ∀ d a n, a + d = 2 * r + 1 → d < n → ∀ (x5 x6 : Int32) (v P : gv_F), gv_XS (gv_sc inp rec r s f b) (gv_ln r) r A v0 (a * (2 * r + 1)) x5 x6 v →
      wX_searchMotion_14 post (nI f) (nI b) (nI s) (nI A) n x5 x6 (nI a - nI r) qu (nI r) bf ph fc dc oc wp rp oa na inp rec dcd typ ord mod vcs nzs str isd v bwd P res cof lev := by
  intro d
  induction d with
  | zero =>
    intro a n ha hn x5 x6 v P H
    obtain ⟨n, rfl⟩ : ∃ m, n = m + 1 := ⟨n - 1, by omega⟩
    obtain rfl : a = 2 * r + 1 := by omega
    exact br_t ((gv_vr r hr _ (by omega)).mpr (by omega)) (h x5 x6 v P H)
  | succ d ih =>
    intro a n ha hn x5 x6 v P H
    obtain ⟨n, rfl⟩ : ∃ m, n = m + 1 := ⟨n - 1, by omega⟩
    exact br_f (fun z => by have := (gv_vr r hr a (by omega)).mp z; omega) (nm_r (gv_v0 r hr) ⟨2 * r + 2, gx_s30 hr hf hb hs hA (by omega) hi hR (fun x5 x6 v P H' => ih (a + 1) n (by omega) (by omega) x5 x6 v P H') (2 * r + 1) 0 (2 * r + 2) (by omega) (by omega) x5 x6 v P H⟩)
theorem gx_search {post : Int32 → SX → Prop} (hr : r < 3) (hf : f < 8) (hb : b < 4) (hs : s < 8) (hA : A + 1 < 4) (hi : gv_P inp) (hR : gv_P rec)
    (h : ∀ v P : gv_F, v A = gv_vx r (gv_se inp rec r s f b) → v (A + 1) = gv_vy r (gv_se inp rec r s f b) → (∀ c, c ≠ A → c ≠ A + 1 → v c = vct c) → post (gv_c1 inp rec r f b s) (qu, nI r, bf, ph, fc, dc, oc, wp, rp, oa, na, inp, rec, dcd, typ, ord, mod, vcs, nzs, str, isd, v, bwd, P, res, cof, lev)) :
    wpX_searchMotion post (qu, nI r, bf, ph, fc, dc, oc, wp, rp, oa, na, inp, rec, dcd, typ, ord, mod, vcs, nzs, str, isd, vct, bwd, prd, res, cof, lev) (nI f) (nI b) (nI s) (nI A) := by
  refine nm_r (gv_v0 r hr) ⟨2 * r + 2, gx_s14 (v0 := vct) hr hf hb hs hA hi hR (fun x5 x6 v P H => ?_) (2 * r + 1) 0 (2 * r + 2) (by omega) (by omega) 1000000 0 vct prd ⟨Or.inl ⟨by omega, rfl⟩, fun _ _ _ => rfl⟩⟩
  obtain ⟨H, K⟩ := H
  rcases H with ⟨z, -⟩ | ⟨-, h1, h2, h3, h4⟩
  · have : 0 < (2 * r + 1) * (2 * r + 1) := Nat.mul_pos (by omega) (by omega)
    omega
  · subst h1
    exact h v P h3 h4 K
variable {past next ty : Nat}
theorem gx_choose {post : Int32 → SX → Prop} (hr : r < 3) (hf : f < 8) (hb : b < 4) (hp : past < 8) (hn : next < 8) (ht3 : ty < 3) (ht : typ f = nI ty) (hi : gv_P inp) (hR : gv_P rec)
    (h : ∀ V P Q : gv_F, (ty ≠ 0 → V 0 = gv_vu inp rec r f b past next 0 ∧ V 1 = gv_vu inp rec r f b past next 1) → (ty = 2 → V 2 = gv_vu inp rec r f b past next 2 ∧ V 3 = gv_vu inp rec r f b past next 3) →
      post (nI (gv_mo inp rec r ty f b past next)) (qu, nI r, bf, ph, fc, dc, oc, wp, rp, oa, na, inp, rec, dcd, typ, ord, mod, vcs, nzs, str, isd, V, Q, P, res, cof, lev)) : wpX_chooseMode post (qu, nI r, bf, ph, fc, dc, oc, wp, rp, oa, na, inp, rec, dcd, typ, ord, mod, vcs, nzs, str, isd, vct, bwd, prd, res, cof, lev) (nI f) (nI b) (nI past) (nI next) := by
  have hv : vp_in (nI f) 8 := vp_in_nI hf (by decide)
  have ht' : typ (nI f).toNatClampNeg = nI ty := by rw [nI_clamp (by omega)]; exact ht
  refine ⟨hv, ?_⟩
  by_cases t0 : ty = 0
  · refine br_t (by rw [ht', t0]; rfl) ?_
    have := h vct prd bwd (fun z => absurd t0 z) (fun z => by omega)
    rw [gv_mo_0 t0] at this
    exact this
  refine br_f (by rw [ht']; exact nI_ne0 (by omega) (by omega)) (gx_search hr hf hb hp (by decide) hi hR (fun v P h1 h2 h3 => ⟨hv, ?_⟩))
  by_cases t1 : ty = 1
  · refine br_t (by rw [ht', t1]; rfl) ?_
    have := h v P bwd (fun _ => ⟨h1, h2⟩) (fun z => by omega)
    rw [gv_mo_1 t1] at this
    exact this
  have t2 : ty = 2 := by omega
  refine br_f (by rw [ht', t2]; decide) (gx_search hr hf hb hn (by decide) hi hR (fun V P' g1 g2 g3 => ?_))
  have hV : ∀ c, c < 4 → V c = gv_vu inp rec r f b past next c := by
    intro c hc
    rcases (by omega : c = 0 ∨ c = 1 ∨ c = 2 ∨ c = 3) with rfl | rfl | rfl | rfl
    · rw [g3 0 (by decide) (by decide)]; exact h1
    · rw [g3 1 (by decide) (by decide)]; exact h2
    · exact g1
    · exact g2
  refine gx_pred_recon (m := 3) hb (by decide) hp hn (fun P2 Q hP2 => gx_cost (P := gv_pr rec b 3 (gv_vu inp rec r f b past next) past next) hf hb (fun t ht => ?_) ?_)
  · rw [hP2 t ht]
    exact gv_pr_c hV (fun _ _ => ⟨rfl, fun _ _ => rfl⟩) (fun _ _ => ⟨rfl, fun _ _ => rfl⟩) t
  have F := h V P2 Q (fun _ => ⟨hV 0 (by decide), hV 1 (by decide)⟩) (fun _ => ⟨hV 2 (by decide), hV 3 (by decide)⟩)
  rw [gv_mo_2 t2] at F
  have W : ¬ (gv_c1 inp rec r f b past ≤ gv_c1 inp rec r f b next ∧ gv_c1 inp rec r f b past ≤ gv_c3 inp rec r f b past next) → wX_chooseMode_81 post (gv_c1 inp rec r f b next) (gv_c3 inp rec r f b past next) qu (nI r) bf ph fc dc oc wp rp oa na inp rec dcd typ ord mod vcs nzs str isd V Q P2 res cof lev := by
    intro c
    rw [if_neg c] at F
    refine br_c (fun d => ?_) (fun d => ?_)
    · rw [if_neg (Int32.not_le.mpr d)] at F; exact F
    · rw [if_pos (Int32.not_lt.mp d)] at F; exact F
  refine br_c (fun c => W (fun z => Int32.not_lt.mpr z.1 c)) (fun c => br_c (fun d => W (fun z => Int32.not_lt.mpr z.2 d)) (fun d => ?_))
  rw [if_pos ⟨Int32.not_lt.mp c, Int32.not_lt.mp d⟩] at F
  exact F
theorem gx_drop {post : SX → Prop} {m : Nat} {W : gv_F} (hm : m < 4) (h0 : m = 1 ∨ m = 3 → vct 0 = W 0 ∧ vct 1 = W 1) (h2 : m = 2 ∨ m = 3 → vct 2 = W 2 ∧ vct 3 = W 3)
    (z0 : ¬ (m = 1 ∨ m = 3) → W 0 = 0 ∧ W 1 = 0) (z2 : ¬ (m = 2 ∨ m = 3) → W 2 = 0 ∧ W 3 = 0)
    (h : ∀ V : gv_F, (∀ c, c < 4 → V c = W c) → post (qu, rg, bf, ph, fc, dc, oc, wp, rp, oa, na, inp, rec, dcd, typ, ord, mod, vcs, nzs, str, isd, V, bwd, prd, res, cof, lev)) : wpX_dropUnusedVectors post (qu, rg, bf, ph, fc, dc, oc, wp, rp, oa, na, inp, rec, dcd, typ, ord, mod, vcs, nzs, str, isd, vct, bwd, prd, res, cof, lev) (nI m) := by
  have T : ∀ V : gv_F, V 0 = W 0 → V 1 = W 1 → V 2 = W 2 → V 3 = W 3 → ∀ c, c < 4 → V c = W c := by
    intro V a0 a1 a2 a3 c hc
    rcases (by omega : c = 0 ∨ c = 1 ∨ c = 2 ∨ c = 3) with rfl | rfl | rfl | rfl <;> assumption
  rcases (by omega : m = 0 ∨ m = 1 ∨ m = 2 ∨ m = 3) with rfl | rfl | rfl | rfl
  · have a := z0 (by decide)
    have c := z2 (by decide)
    refine br_f (by decide) (br_f (by decide) (nm_e (nm_e (br_f (by decide) (br_f (by decide) (nm_e (nm_e (h _ (T _ ?_ ?_ ?_ ?_)))))))))
    · rw [a.1]; rfl
    · rw [a.2]; rfl
    · rw [c.1]; rfl
    · rw [c.2]; rfl
  · have a := h0 (by decide)
    have c := z2 (by decide)
    refine br_t rfl (br_f (by decide) (br_f (by decide) (nm_e (nm_e (h _ (T _ ?_ ?_ ?_ ?_))))))
    · exact a.1
    · exact a.2
    · rw [c.1]; rfl
    · rw [c.2]; rfl
  · have a := z0 (by decide)
    have c := h2 (by decide)
    refine br_f (by decide) (br_f (by decide) (nm_e (nm_e (br_t rfl (h _ (T _ ?_ ?_ ?_ ?_))))))
    · rw [a.1]; rfl
    · rw [a.2]; rfl
    · exact c.1
    · exact c.2
  · have a := h0 (by decide)
    have c := h2 (by decide)
    exact br_f (by decide) (br_t rfl (br_f (by decide) (br_t rfl (h _ (T _ a.1 a.2 c.1 c.2)))))
end
end
section
/-! X: codeFrame, encode -/
theorem gv_HD_new {q mb n p : Nat} {S : gv_F} (hf : gv_od mb n p < 8) (hq : q ≤ 64) (h1 : 1 ≤ q) : gv_HD q mb n (gv_ws (gv_ws (gv_ws S (899 * p) (gv_od mb n p) 3 3) (899 * p + 3) (gv_ty mb n (gv_od mb n p)) 2 2) (899 * p + 3 + 2) (q - 1) 6 6) p := by
  have ht := gv_ty_3 mb n (gv_od mb n p)
  refine ⟨?_, ?_, ?_⟩
  · rw [gv_rd_lo (S' := gv_ws S (899 * p) (gv_od mb n p) 3 3) (P := 899 * p + 3) (fun j hj => by rw [gv_ws_m (by omega), gv_ws_m (by omega)]) (by omega)]
    exact gv_rd_ws (by omega)
  · rw [gv_rd_lo (S' := gv_ws (gv_ws S (899 * p) (gv_od mb n p) 3 3) (899 * p + 3) (gv_ty mb n (gv_od mb n p)) 2 2) (P := 899 * p + 5) (fun j hj => by rw [gv_ws_m (by omega)]) (by omega)]
    exact gv_rd_ws (by omega)
  · exact gv_rd_ws (by omega)
section
variable {qu rg bf ph fc dc oc wp rp oa na : Int32} {inp rec dcd typ ord mod vcs nzs str isd vct bwd prd res cof lev : Nat → Int32}
variable {q r mb N p : Nat} {G : Nat → gv_Q}
theorem gx_cf44 {post : SX → Prop} (hq1 : 1 ≤ q) (hq2 : q ≤ 64) (hr : r < 3) (hm : mb < 4) (hN : N < 9) (hp : p < N) (hT : ∀ k, k < N → typ k = nI (gv_ty mb N k)) (hi : gv_P inp)
    (hG : ∀ b, b < 4 → gv_blk inp q r (gv_ty mb N (gv_od mb N p)) (gv_od mb N p) b (gv_pa mb N (gv_od mb N p)) (gv_na mb N (gv_od mb N p)) (G (4 * p + b)) = G (4 * p + b + 1)) (hP : ∀ k, gv_P (G k).1)
    (h : ∀ S vct bwd prd res cof lev : gv_F, gv_J q mb N S (G (4 * p + 4)).1 p 4 → gv_HD q mb N S p → post (nI q, nI r, bf, ph, fc, dc, oc, nI (gv_bs p 4), rp, oa, na, inp, (G (4 * p + 4)).1, dcd, typ, ord, (G (4 * p + 4)).2.1, (G (4 * p + 4)).2.2.1, (G (4 * p + 4)).2.2.2, S, isd, vct, bwd, prd, res, cof, lev)) :
    ∀ d b n, b + d = 4 → d < n → ∀ S vct bwd prd res cof lev : gv_F, gv_J q mb N S (G (4 * p + b)).1 p b → gv_HD q mb N S p →
      wX_codeFrame_44 post (nI (gv_od mb N p)) (nI (gv_pa mb N (gv_od mb N p))) (nI (gv_na mb N (gv_od mb N p))) n (nI b) (nI q) (nI r) bf ph fc dc oc (nI (gv_bs p b)) rp oa na inp ((G (4 * p + b)).1) dcd typ ord ((G (4 * p + b)).2.1) ((G (4 * p + b)).2.2.1) ((G (4 * p + b)).2.2.2) S isd vct bwd prd res cof lev := by
  have hfN := gv_od_lt mb hm N hN p hp
  have hpn := gv_pa_lt mb hm N hN _ hfN
  intro d
  induction d with
  | zero =>
    intro b n hb hn S vct bwd prd res cof lev HJ HH
    obtain ⟨n, rfl⟩ : ∃ m, n = m + 1 := ⟨n - 1, by omega⟩
    obtain rfl : b = 4 := by omega
    exact br_t (by decide) (h S vct bwd prd res cof lev HJ HH)
  | succ d ih =>
    intro b n hb hn S vct bwd prd res cof lev HJ HH
    obtain ⟨n, rfl⟩ : ∃ m, n = m + 1 := ⟨n - 1, by omega⟩
    have hb4 : b < 4 := by omega
    have e := hG b hb4
    have I := ih (b + 1) n (by omega) (by omega)
    rw [show 4 * p + (b + 1) = 4 * p + b + 1 from rfl, ← e] at I
    have hR := hP (4 * p + b)
    generalize G (4 * p + b) = s at HJ I hR e ⊢
    clear e hG h
    have hf8 : gv_od mb N p < 8 := by omega
    have ht3 := gv_ty_3 mb N (gv_od mb N p)
    have hBs : gv_bs p b + 222 ≤ 7192 := by unfold gv_bs; omega
    have hw : gv_bs p (b + 1) = gv_bs p b + 222 := by unfold gv_bs; omega
    have hm4 := gv_mo_4 inp s.1 r (gv_ty mb N (gv_od mb N p)) (gv_od mb N p) b (gv_pa mb N (gv_od mb N p)) (gv_na mb N (gv_od mb N p))
    have tf := hT _ hfN
    have m0 : gv_ty mb N (gv_od mb N p) = 0 → gv_mo inp s.1 r (gv_ty mb N (gv_od mb N p)) (gv_od mb N p) b (gv_pa mb N (gv_od mb N p)) (gv_na mb N (gv_od mb N p)) = 0 := fun z => gv_mo_0 z
    have m1 : gv_ty mb N (gv_od mb N p) = 1 → gv_mo inp s.1 r (gv_ty mb N (gv_od mb N p)) (gv_od mb N p) b (gv_pa mb N (gv_od mb N p)) (gv_na mb N (gv_od mb N p)) = 1 := fun z => gv_mo_1 z
    refine br_f (nI_ge (b := 4) (by omega) (by decide)) (gx_choose hr hf8 hb4 (by omega) (by omega) ht3 tf hi hR (fun V P Q hV0 hV2 => gx_drop (W := gv_vv inp s.1 r (gv_mo inp s.1 r (gv_ty mb N (gv_od mb N p)) (gv_od mb N p) b (gv_pa mb N (gv_od mb N p)) (gv_na mb N (gv_od mb N p))) (gv_od mb N p) b (gv_pa mb N (gv_od mb N p)) (gv_na mb N (gv_od mb N p))) hm4 ?_ ?_ ?_ ?_ (fun V' hV' =>
      gx_pred_recon hb4 hm4 (by omega) (by omega) (fun P' Q' hP' => gx_quant (P := gv_pp s.1 inp r (gv_ty mb N (gv_od mb N p)) (gv_od mb N p) b (gv_pa mb N (gv_od mb N p)) (gv_na mb N (gv_od mb N p))) hq1 hq2 hf8 hb4 ?_ (fun A B L hL =>
      gx_wblock (L := gv_ll s.1 inp q r (gv_ty mb N (gv_od mb N p)) (gv_od mb N p) b (gv_pa mb N (gv_od mb N p)) (gv_na mb N (gv_od mb N p))) hm4 hBs hV' (fun c _ => gv_vv_b hr _ _ _ _ _ _) hL (fun k hk => gv_ll_b hi hR hq1 hq2 _ _ _ _ _ _ hk) (fun S' j1 j2 j3 j4 =>
      gx_rebuild_recon (P := gv_pp s.1 inp r (gv_ty mb N (gv_od mb N p)) (gv_od mb N p) b (gv_pa mb N (gv_od mb N p)) (gv_na mb N (gv_od mb N p))) (L := gv_ll s.1 inp q r (gv_ty mb N (gv_od mb N p)) (gv_od mb N p) b (gv_pa mb N (gv_od mb N p)) (gv_na mb N (gv_od mb N p))) hf8 hb4 ?_ hL (fun A B =>
      gx_keep hf8 hb4 hL (nm_r (nI_1 b) ?_))))))))
    · intro z
      have : gv_ty mb N (gv_od mb N p) ≠ 0 := fun y => by have := m0 y; omega
      rw [gv_vv_f (by omega) z, gv_vv_f (by omega) z]
      exact hV0 this
    · intro z
      have : gv_ty mb N (gv_od mb N p) = 2 := by
        rcases (by omega : gv_ty mb N (gv_od mb N p) = 0 ∨ gv_ty mb N (gv_od mb N p) = 1 ∨ gv_ty mb N (gv_od mb N p) = 2) with y | y | y
        · have := m0 y; omega
        · have := m1 y; omega
        · exact y
      rw [gv_vv_b2 (by omega) z, gv_vv_b2 (by omega) z]
      exact hV2 this
    · intro z
      exact ⟨gv_vv_f0 (by omega) z, gv_vv_f0 (by omega) z⟩
    · intro z
      exact ⟨gv_vv_b0 (by omega) z, gv_vv_b0 (by omega) z⟩
    · intro t ht
      rw [hP' t ht, gv_pr_c hV' (fun _ _ => ⟨rfl, fun _ _ => rfl⟩) (fun _ _ => ⟨rfl, fun _ _ => rfl⟩) t, gv_vv_pr hm4]
      rfl
    · intro t ht
      rw [hP' t ht, gv_pr_c hV' (fun _ _ => ⟨rfl, fun _ _ => rfl⟩) (fun _ _ => ⟨rfl, fun _ _ => rfl⟩) t, gv_vv_pr hm4]
      rfl
    · have J' := gv_J_b (q := q) hm hN hp hb4 m0 m1 j2 j3 j4 (fun j hj => (j1 j hj).symm) HJ
      rw [gv_nb_e (fun _ _ => rfl) (fun _ _ => rfl)] at J'
      rw [hw] at I
      rw [gv_w4_c hV']
      exact I S' V' Q' P' A B L J' (gv_HD_c (fun j hj => (j1 j (by unfold gv_bs; omega)).symm) HH)
theorem gx_codeFrame {post : SX → Prop} (hq1 : 1 ≤ q) (hq2 : q ≤ 64) (hr : r < 3) (hm : mb < 4) (hN : N < 9) (hp : p < N) (hT : ∀ k, k < N → typ k = nI (gv_ty mb N k)) (hi : gv_P inp)
    (hG : ∀ b, b < 4 → gv_blk inp q r (gv_ty mb N (gv_od mb N p)) (gv_od mb N p) b (gv_pa mb N (gv_od mb N p)) (gv_na mb N (gv_od mb N p)) (G (4 * p + b)) = G (4 * p + b + 1)) (hP : ∀ k, gv_P (G k).1)
    (HJ : gv_J q mb N str (G (4 * p)).1 p 0)
    (h : ∀ S vct bwd prd res cof lev : gv_F, gv_J q mb N S (G (4 * (p + 1))).1 (p + 1) 0 → post (nI q, nI r, bf, ph, nI N, dc, oc, nI (899 * (p + 1)), rp, oa, na, inp, (G (4 * (p + 1))).1, dcd, typ, ord, (G (4 * (p + 1))).2.1, (G (4 * (p + 1))).2.2.1, (G (4 * (p + 1))).2.2.2, S, isd, vct, bwd, prd, res, cof, lev)) :
    wpX_codeFrame post (nI q, nI r, bf, ph, nI N, dc, oc, nI (899 * p), rp, oa, na, inp, (G (4 * p)).1, dcd, typ, ord, (G (4 * p)).2.1, (G (4 * p)).2.2.1, (G (4 * p)).2.2.2, str, isd, vct, bwd, prd, res, cof, lev) (nI (gv_od mb N p)) := by
  have hfN := gv_od_lt mb hm N hN p hp
  have ht3 := gv_ty_3 mb N (gv_od mb N p)
  have tf := hT _ hfN
  refine gx_before (mb := mb) hN hfN hT (gx_after (mb := mb) hN hfN hT (gx_wb (gv_od mb N p) 3 (899 * p) (by omega) (by decide) (by omega) ⟨vp_in_nI (by omega) (by decide), ?_⟩))
  rw [nI_clamp (by omega), tf]
  refine gx_wb (gv_ty mb N (gv_od mb N p)) 2 (899 * p + 3) (by omega) (by decide) (by omega) ?_
  show wpX_writeBits _ _ (nI q - 1) 6
  rw [gv_m1 hq1]
  refine gx_wb (q - 1) 6 (899 * p + 3 + 2) (by omega) (by decide) (by omega) ⟨5, gx_cf44 (p := p) (G := G) hq1 hq2 hr hm hN hp hT hi hG hP (fun S vct bwd prd res cof lev J' H' => ?_) 4 0 5 rfl (by decide) _ vct bwd prd res cof lev (gv_J_h (fun j hj => ?_) HJ) (gv_HD_new (by omega) hq2 hq1)⟩
  · have K := h S vct bwd prd res cof lev (gv_J_n J' H')
    rw [show gv_bs p 4 = 899 * (p + 1) by unfold gv_bs; omega]
    exact K
  · rw [gv_ws_m (by omega), gv_ws_m (by omega), gv_ws_m (by omega)]
theorem gx_e31 {post : Int32 → SX → Prop} (hq1 : 1 ≤ q) (hq2 : q ≤ 64) (hr : r < 3) (hm : mb < 4) (hN : N < 9) (hT : ∀ k, k < N → typ k = nI (gv_ty mb N k)) (hO : ∀ k, k < N → ord k = nI (gv_od mb N k)) (hi : gv_P inp)
    (hG : ∀ p b, b < 4 → gv_blk inp q r (gv_ty mb N (gv_od mb N p)) (gv_od mb N p) b (gv_pa mb N (gv_od mb N p)) (gv_na mb N (gv_od mb N p)) (G (4 * p + b)) = G (4 * p + b + 1)) (hP : ∀ k, gv_P (G k).1)
    (h : ∀ S vct bwd prd res cof lev : gv_F, gv_J q mb N S (G (4 * N)).1 N 0 → post (nI N) (nI q, nI r, bf, 1, nI N, 0, 0, nI (899 * N), 0, 0, 0, inp, (G (4 * N)).1, dcd, typ, ord, (G (4 * N)).2.1, (G (4 * N)).2.2.1, (G (4 * N)).2.2.2, S, gv_wi isd (fun _ => 0) 8, vct, bwd, prd, res, cof, lev)) :
    ∀ d p n, p + d = N → d < n → ∀ S vct bwd prd res cof lev : gv_F, gv_J q mb N S (G (4 * p)).1 p 0 →
      wX_encode_31 post n (nI p) (nI q) (nI r) bf ph (nI N) dc oc (nI (899 * p)) rp oa na inp ((G (4 * p)).1) dcd typ ord ((G (4 * p)).2.1) ((G (4 * p)).2.2.1) ((G (4 * p)).2.2.2) S isd vct bwd prd res cof lev := by
  intro d
  induction d with
  | zero =>
    intro p n hp hn S vct bwd prd res cof lev HJ
    obtain ⟨n, rfl⟩ : ∃ m, n = m + 1 := ⟨n - 1, by omega⟩
    obtain rfl : p = N := by omega
    exact br_t (nI_le (Nat.le_refl _) (by omega)) (gx_start (h S vct bwd prd res cof lev HJ))
  | succ d ih =>
    intro p n hp hn S vct bwd prd res cof lev HJ
    obtain ⟨n, rfl⟩ : ∃ m, n = m + 1 := ⟨n - 1, by omega⟩
    refine br_f (nI_ge (by omega) (by omega)) ⟨vp_in_nI (by omega) (by decide), ?_⟩
    rw [nI_clamp (by omega), hO p (by omega)]
    exact gx_codeFrame (G := G) hq1 hq2 hr hm hN (by omega) hT hi (hG p) hP HJ (fun S vct bwd prd res cof lev J' => nm_r (nI_1 p) (ih (p + 1) n (by omega) (by omega) S vct bwd prd res cof lev J'))
theorem gx_encode {post : Int32 → SX → Prop} (hq1 : 1 ≤ q) (hq2 : q ≤ 64) (hr : r < 3) (hm : mb < 4) (hN : N < 9) (h1 : 1 ≤ N) (hi : gv_P inp) (hR : gv_P rec)
    (h : ∀ (s : gv_Q) (S vct bwd prd res cof lev : gv_F), s = gv_run inp q r mb N (rec, mod, vcs, nzs) (4 * N) → gv_P s.1 → gv_J q mb N S s.1 N 0 →
      post (nI N) (nI q, nI r, nI mb, 1, nI N, 0, 0, nI (899 * N), 0, 0, 0, inp, s.1, dcd, gv_wi typ (gv_T mb N) N, gv_wi ord (gv_O mb N) N, s.2.1, s.2.2.1, s.2.2.2, S, gv_wi isd (fun _ => 0) 8, vct, bwd, prd, res, cof, lev)) :
    wpX_encode post (nI q, nI r, nI mb, 0, nI N, dc, oc, wp, rp, oa, na, inp, rec, dcd, typ, ord, mod, vcs, nzs, str, isd, vct, bwd, prd, res, cof, lev) := by
  refine br_t rfl (br_f (nI_ne0 (by omega) (by omega)) (gx_types hm hN h1 (gx_order (mb := mb) hN h1 (fun k hk => gv_wi_h hk) ⟨N + 1, gx_e31 (typ := gv_wi typ (gv_T mb N) N) (ord := gv_wi ord (gv_O mb N) N) (G := gv_run inp q r mb N (rec, mod, vcs, nzs)) hq1 hq2 hr hm hN (fun k hk => gv_wi_h hk) (fun k hk => gv_wi_h hk) hi (fun p b hb => gv_run_s hb) (fun k => gv_run_p hR k) (fun S vct bwd prd res cof lev J => h _ S vct bwd prd res cof lev rfl (gv_run_p hR _) J) N 0 (N + 1) (by omega) (by omega) str vct bwd prd res cof lev (gv_J_0 q mb N str rec)⟩)))
end
end
section
/-! X: decodeFrame, decodeNext -/
section
variable {qu rg bf ph fc dc oc wp rp oa na : Int32} {inp rec dcd typ ord mod vcs nzs str isd vct bwd prd res cof lev : Nat → Int32}
variable {q mb N e : Nat}
theorem gx_df42 {post : Int32 → SX → Prop} {past : Nat} (hm : mb < 4) (hN : N < 9) (he : e < N) (hpast : past = if gv_ty mb N (gv_od mb N e) = 2 then gv_ol mb N e else gv_nw mb N e)
    (hC : ∀ b, b < 4 → gv_CB q mb N str rec e b)
    (h : ∀ D vct bwd prd res cof lev : gv_F, gv_D mb N rec D e 4 → post (nI (gv_od mb N e)) (qu, rg, bf, ph, fc, dc, oc, wp, nI (gv_bs e 4), nI (gv_ol mb N (e + 1)), nI (gv_nw mb N (e + 1)), inp, rec, D, typ, ord, mod, vcs, nzs, str, upd isd (gv_od mb N e) 1, vct, bwd, prd, res, cof, lev)) :
    ∀ d b n, b + d = 4 → d < n → ∀ D vct bwd prd res cof lev : gv_F, gv_D mb N rec D e b →
      wX_decodeFrame_42 post (nI (gv_od mb N e)) (nI (gv_ty mb N (gv_od mb N e))) (nI q) (nI past) n (nI b) qu rg bf ph fc dc oc wp (nI (gv_bs e b)) (nI (gv_ol mb N e)) (nI (gv_nw mb N e)) inp rec D typ ord mod vcs nzs str isd vct bwd prd res cof lev := by
  have hfN := gv_od_lt mb hm N hN e he
  have hal := gv_an_lt mb hm N hN e (by omega)
  have hp8 : past < 8 := by rw [hpast]; split <;> omega
  intro d
  induction d with
  | zero =>
    intro b n hb hn D vct bwd prd res cof lev HD
    obtain ⟨n, rfl⟩ : ∃ m, n = m + 1 := ⟨n - 1, by omega⟩
    obtain rfl : b = 4 := by omega
    have K := h D vct bwd prd res cof lev HD
    rw [show gv_ol mb N (e + 1) = if gv_ty mb N (gv_od mb N e) = 2 then gv_ol mb N e else gv_nw mb N e from rfl, show gv_nw mb N (e + 1) = if gv_ty mb N (gv_od mb N e) = 2 then gv_nw mb N e else gv_od mb N e from rfl] at K
    have hu : upd isd (nI (gv_od mb N e)).toNatClampNeg (vp_nar .boolean 1) = upd isd (gv_od mb N e) 1 := by rw [nI_clamp (by omega), gv_b1]
    refine br_t (by decide) (br_c (fun c => ⟨vp_in_nI (by omega) (by decide), nm_r hu ?_⟩) (fun c => ⟨vp_in_nI (by omega) (by decide), nm_r hu ?_⟩))
    · rw [gv_ty2] at c
      rw [if_pos c, if_pos c] at K
      exact K
    · rw [gv_ty2] at c
      rw [if_neg c, if_neg c] at K
      exact K
  | succ d ih =>
    intro b n hb hn D vct bwd prd res cof lev HD
    obtain ⟨n, rfl⟩ : ∃ m, n = m + 1 := ⟨n - 1, by omega⟩
    have hb4 : b < 4 := by omega
    have hBs : gv_bs e b + 222 ≤ 7192 := by unfold gv_bs; omega
    have hw : gv_bs e (b + 1) = gv_bs e b + 222 := by unfold gv_bs; omega
    have I := ih (b + 1) n (by omega) (by omega)
    rw [hw] at I
    refine br_f (nI_ge (b := 4) (by omega) (by decide)) (gx_rblock hBs (fun V L hV hL => gx_pred_decoded hb4 (gv_sq_4 _ _) hp8 (by omega) (fun P Q hP => gx_rebuild_decoded (P := gv_pr D b (gv_sq str (gv_bs e b)) (gv_sv str (gv_bs e b)) past (gv_nw mb N e)) (L := gv_sl str (gv_bs e b)) (by omega) hb4 (fun t ht => ?_) hL (fun A B => nm_r (nI_1 b) (I _ V Q P A B L (gv_D_s hm hN he hb4 (hC b hb4) hpast rfl HD))))))
    rw [hP t ht]
    exact gv_pr_c hV (fun _ _ => ⟨rfl, fun _ _ => rfl⟩) (fun _ _ => ⟨rfl, fun _ _ => rfl⟩) t
theorem gx_decodeFrame {post : Int32 → SX → Prop} (hq1 : 1 ≤ q) (hm : mb < 4) (hN : N < 9) (he : e < N) (hJ : gv_J q mb N str rec N 0) (HD : gv_D mb N rec dcd e 0)
    (h : ∀ D vct bwd prd res cof lev : gv_F, gv_D mb N rec D (e + 1) 0 → post (nI (gv_od mb N e)) (qu, rg, bf, ph, fc, dc, oc, wp, nI (899 * (e + 1)), nI (gv_ol mb N (e + 1)), nI (gv_nw mb N (e + 1)), inp, rec, D, typ, ord, mod, vcs, nzs, str, upd isd (gv_od mb N e) 1, vct, bwd, prd, res, cof, lev)) :
    wpX_decodeFrame post (qu, rg, bf, ph, fc, dc, oc, wp, nI (899 * e), nI (gv_ol mb N e), nI (gv_nw mb N e), inp, rec, dcd, typ, ord, mod, vcs, nzs, str, isd, vct, bwd, prd, res, cof, lev) := by
  obtain ⟨H1, H2⟩ := hJ
  obtain ⟨a1, a2, a3⟩ := H1 e he
  refine gx_rb 3 (899 * e) (by decide) (by omega) (gx_rb 2 (899 * e + 3) (by decide) (by omega) (gx_rb 6 (899 * e + 3 + 2) (by decide) (by omega) (nm_r (e' := nI q) ?_ ?_)))
  · rw [show 899 * e + 3 + 2 = 899 * e + 5 from rfl, a3, nI_1, show q - 1 + 1 = q by omega]
  · rw [a1, a2]
    have K : ∀ past, past = (if gv_ty mb N (gv_od mb N e) = 2 then gv_ol mb N e else gv_nw mb N e) → ∃ n42 : Nat, wX_decodeFrame_42 post (nI (gv_od mb N e)) (nI (gv_ty mb N (gv_od mb N e))) (nI q) (nI past) n42 0 qu rg bf ph fc dc oc wp (nI (899 * e + 3 + 2 + 6)) (nI (gv_ol mb N e)) (nI (gv_nw mb N e)) inp rec dcd typ ord mod vcs nzs str isd vct bwd prd res cof lev := by
      intro past hpast
      refine ⟨5, gx_df42 hm hN he hpast (fun b hb => H2 e b hb (Or.inl he)) (fun D vct bwd prd res cof lev HD' => ?_) 4 0 5 rfl (by decide) dcd vct bwd prd res cof lev HD⟩
      rw [show gv_bs e 4 = 899 * (e + 1) by unfold gv_bs; omega]
      exact h D vct bwd prd res cof lev (gv_D_n HD')
    refine br_c (fun c => ?_) (fun c => ?_)
    · exact K _ (if_pos (gv_ty2.mp c)).symm
    · exact K _ (if_neg (fun z => c (gv_ty2.mpr z))).symm
theorem gx_decodeNext {post : Int32 → SX → Prop} {o : Nat} (hq1 : 1 ≤ q) (hm : mb < 4) (hN : N < 9) (he : e < N) (hJ : gv_J q mb N str rec N 0) (HD : gv_D mb N rec dcd e 0) (HO : gv_OC mb N e o) (HI : ∀ k, k < 8 → (isd k = 0 ↔ gv_in mb N e k = false))
    (h : ∀ (o' : Nat) (D I vct bwd prd res cof lev : gv_F), gv_D mb N rec D (e + 1) 0 → gv_OC mb N (e + 1) o' → (∀ k, k < 8 → (I k = 0 ↔ gv_in mb N (e + 1) k = false)) →
      post (nI (gv_od mb N e)) (qu, rg, bf, 1, nI N, nI (e + 1), nI o', wp, nI (899 * (e + 1)), nI (gv_ol mb N (e + 1)), nI (gv_nw mb N (e + 1)), inp, rec, D, typ, ord, mod, vcs, nzs, str, I, vct, bwd, prd, res, cof, lev)) :
    wpX_decodeNext post (qu, rg, bf, 1, nI N, nI e, nI o, wp, nI (899 * e), nI (gv_ol mb N e), nI (gv_nw mb N e), inp, rec, dcd, typ, ord, mod, vcs, nzs, str, isd, vct, bwd, prd, res, cof, lev) := by
  have hI : ∀ k, k < 8 → (upd isd (gv_od mb N e) 1 k = 0 ↔ gv_in mb N (e + 1) k = false) := by
    intro k hk
    rw [gv_in_s]
    by_cases z : k = gv_od mb N e
    · subst z
      rw [pk_us]
      simp
    · rw [pk_un z, HI k hk]
      have : (gv_od mb N e == k) = false := by simp; omega
      rw [this, Bool.or_false]
  refine br_t rfl (br_f (fun z => by rw [nI_eq (by omega) (by omega)] at z; omega) (gx_decodeFrame hq1 hm hN he hJ HD (fun D vct bwd prd res cof lev HD' => nm_r (nI_1 e) (gx_release (Dn := gv_in mb N (e + 1)) hN HO.1 hI (fun k hk => ?_) (fun o' h1 h2 h3 => h o' D _ vct bwd prd res cof lev HD' ⟨h1, h2, h3⟩ hI)))))
  rw [gv_in_s, HO.2.1 k hk]
  rfl
end
end
section
/-! Y: the small methods -/
section
variable {yq yr yb yn yp yd yx yy : Int32} {inq req yo ymo yve ynz ypp ypd yzc : Nat → Int32}
theorem gy_clamp {post : Int32 → Prop} {v lo hi : Int32} (h : post (gv_cp v lo hi)) : wpY_clamp post (yq, yr, yb, yn, yp, yd, yx, yy, inq, req, yo, ymo, yve, ynz, ypp, ypd, yzc) v lo hi := by
  refine br_c (fun a => br_c (fun b => ?_) (fun b => ?_)) (fun a => ?_)
  · rw [gv_cmi (Int32.not_lt.mpr a) (Int32.not_lt.mpr b)] at h; exact h
  · rw [gv_chi (Int32.not_lt.mpr a) (Int32.not_le.mp b)] at h; exact h
  · rw [gv_clo (Int32.not_le.mp a)] at h; exact h
theorem gy_cl {post : Int32 → Prop} {v w : Int32} (e : v = w) (h : post (nI (gv_c7 w))) : wpY_cl post (yq, yr, yb, yn, yp, yd, yx, yy, inq, req, yo, ymo, yve, ynz, ypp, ypd, yzc) v := by
  subst e
  refine gy_clamp (yq := yq) (yr := yr) (yb := yb) (yn := yn) (yp := yp) (yd := yd) (yx := yx) (yy := yy) (inq := inq) (req := req) (yo := yo) (ymo := ymo) (yve := yve) (ynz := ynz) (ypp := ypp) (ypd := ypd) (yzc := yzc) (post := fun r => post r) ?_
  rw [(gv_c7_e v).1]
  exact h
theorem gy_c255 {post : Int32 → Prop} {v : Int32} (h : post (gv_cp v 0 255)) : wpY_c255 post (yq, yr, yb, yn, yp, yd, yx, yy, inq, req, yo, ymo, yve, ynz, ypp, ypd, yzc) v := gy_clamp (yq := yq) (yr := yr) (yb := yb) (yn := yn) (yp := yp) (yd := yd) (yx := yx) (yy := yy) (inq := inq) (req := req) (yo := yo) (ymo := ymo) (yve := yve) (ynz := ynz) (ypp := ypp) (ypd := ypd) (yzc := yzc) (post := fun r => post r) h
theorem gy_abs {post : Int32 → Prop} {v : Int32} (h : post (gv_ab v)) : wpY_abs post (yq, yr, yb, yn, yp, yd, yx, yy, inq, req, yo, ymo, yve, ynz, ypp, ypd, yzc) v := by
  unfold gv_ab at h
  refine br_c (fun a => ?_) (fun a => ?_)
  · rw [if_neg (Int32.not_lt.mpr a)] at h; exact h
  · rw [if_pos (Int32.not_le.mp a)] at h; exact h
theorem gy_can {post : Int32 → Prop} {n : Nat} (hn : n < 2 ^ 31) (h1 : yp = 0 → n < 8 → post 1) (h0 : (yp ≠ 0 ∨ 8 ≤ n) → post 0) : wpY_canAppend post (yq, yr, yb, nI n, yp, yd, yx, yy, inq, req, yo, ymo, yve, ynz, ypp, ypd, yzc) := by
  refine br_c (fun a => ?_) (fun a => h0 (Or.inl a))
  exact pk_le 8 n (fun b => h0 (Or.inr b)) (fun b => h1 a b)
theorem gy_ix : ∀ b, b < 4 → ∀ t, t < 16 → ((((4 * (nI b / 2)) + (nI t / 4)) * 8) + (4 * (nI b - nI b / 2 * 2))) + (nI t - nI t / 4 * 4) = nI (gv_id b t) := by decide +kernel
theorem gy_idx {post : Int32 → Prop} {b t : Nat} (hb : b < 4) (ht : t < 16) (h : post (nI (gv_id b t))) : wpY_idx post (yq, yr, yb, yn, yp, yd, yx, yy, inq, req, yo, ymo, yve, ynz, ypp, ypd, yzc) (nI b) (nI t) := by
  refine ⟨by decide, by decide, by decide, by decide, ?_⟩
  rw [gy_ix b hb t ht]
  exact h
theorem gy_hmt {post : Int32 → Prop} {r c : Nat} (hr : r < 4) (hc : c < 4) (h : post (gv_h r c)) : wpY_hm post (yq, yr, yb, yn, yp, yd, yx, yy, inq, req, yo, ymo, yve, ynz, ypp, ypd, yzc) (nI r) (nI c) := by
  rcases (by omega : r = 0 ∨ r = 1 ∨ r = 2 ∨ r = 3) with rfl | rfl | rfl | rfl <;> rcases (by omega : c = 0 ∨ c = 1 ∨ c = 2 ∨ c = 3) with rfl | rfl | rfl | rfl
  · exact br_t rfl h
  · exact br_t rfl h
  · exact br_t rfl h
  · exact br_t rfl h
  · exact br_f (by decide) (br_t rfl (br_f (by decide) h))
  · exact br_f (by decide) (br_t rfl (br_f (by decide) h))
  · exact br_f (by decide) (br_t rfl (br_t (by decide) h))
  · exact br_f (by decide) (br_t rfl (br_t (by decide) h))
  · exact br_f (by decide) (br_f (by decide) (br_t rfl (br_t rfl h)))
  · exact br_f (by decide) (br_f (by decide) (br_t rfl (br_f (by decide) (br_f (by decide) h))))
  · exact br_f (by decide) (br_f (by decide) (br_t rfl (br_f (by decide) (br_f (by decide) h))))
  · exact br_f (by decide) (br_f (by decide) (br_t rfl (br_f (by decide) (br_t rfl h))))
  · exact br_f (by decide) (br_f (by decide) (br_f (by decide) (br_t rfl h)))
  · exact br_f (by decide) (br_f (by decide) (br_f (by decide) (br_f (by decide) (br_f (by decide) h))))
  · exact br_f (by decide) (br_f (by decide) (br_f (by decide) (br_f (by decide) (br_t rfl h))))
  · exact br_f (by decide) (br_f (by decide) (br_f (by decide) (br_f (by decide) (br_f (by decide) h))))
theorem gy_hm {post : Int32 → Prop} {r c : Nat} {x y : Int32} (ex : x = nI r) (ey : y = nI c) (hr : r < 4) (hc : c < 4) (h : post (gv_h r c)) : wpY_hm post (yq, yr, yb, yn, yp, yd, yx, yy, inq, req, yo, ymo, yve, ynz, ypp, ypd, yzc) x y := by
  subst ex ey
  exact gy_hmt hr hc h
theorem gy_type {post : Int32 → Prop} {mb n k : Nat} (hm : mb < 4) (hn : n < 9) (h1 : 1 ≤ n) (hk : k < 8) (h : post (nI (gv_ty mb n k))) : wpY_typeOf post (yq, yr, nI mb, nI n, yp, yd, yx, yy, inq, req, yo, ymo, yve, ynz, ypp, ypd, yzc) (nI k) := by
  have er := gv_rem (i := k) (mb := mb) hk hm
  have e2 : nI n - 1 = nI (n - 1) := gv_m1 h1
  by_cases c0 : k = 0
  · subst c0; exact br_t rfl h
  refine br_f (nI_ne0 (by omega) (by omega)) ⟨by rw [nI_1]; exact nI_ne0 (by omega) (by omega), ?_⟩
  by_cases c1 : k % (mb + 1) = 0
  · rw [gv_ty_a c0 (Or.inl c1)] at h
    exact br_t (by rw [er, c1]; rfl) h
  refine br_f (by rw [er]; exact nI_ne0 (by omega) (Nat.lt_of_le_of_lt (Nat.mod_le _ _) (by omega))) ?_
  by_cases c2 : k = n - 1
  · rw [gv_ty_a c0 (Or.inr c2)] at h
    exact br_t (by rw [e2, c2]) h
  · rw [gv_ty_b c0 (by omega)] at h
    exact br_f (by rw [e2, nI_eq (by omega) (by omega)]; exact c2) h
theorem gy_pa4 {post : Int32 → Prop} {mb n : Nat} (hm : mb < 4) (hn : n < 9) (h1 : 1 ≤ n) :
    ∀ k m, k ≤ 8 → k < m → post (nI (gv_pa mb n k)) → wY_prevAnchor_4 post yq yr (nI mb) (nI n) yp yd yx yy inq req yo ymo yve ynz ypp ypd yzc m (nI k - 1) := by
  intro k
  induction k with
  | zero =>
    intro m hk hm' h
    obtain ⟨m, rfl⟩ : ∃ j, m = j + 1 := ⟨m - 1, by omega⟩
    exact br_t (by decide) h
  | succ k ih =>
    intro m hk hm' h
    obtain ⟨m, rfl⟩ : ∃ j, m = j + 1 := ⟨m - 1, by omega⟩
    rw [nI_pred]
    rw [show gv_pa mb n (k + 1) = if gv_ty mb n k = 2 then gv_pa mb n k else k from rfl] at h
    refine br_f (nI_pos (by omega)) (gy_type hm hn h1 (by omega) (br_c (fun c => nm_r (Int32.sub_eq_add_neg _ _).symm ?_) (fun c => ?_)))
    · rw [if_pos (gv_ty2.mp c)] at h
      exact ih m (by omega) (by omega) h
    · rw [if_neg (fun z => c (gv_ty2.mpr z))] at h
      exact h
theorem gy_prev {post : Int32 → Prop} {mb n k : Nat} (hm : mb < 4) (hn : n < 9) (h1 : 1 ≤ n) (hk : k < n) (h : post (nI (gv_pa mb n k))) : wpY_prevAnchor post (yq, yr, nI mb, nI n, yp, yd, yx, yy, inq, req, yo, ymo, yve, ynz, ypp, ypd, yzc) (nI k) :=
  nm_e ⟨k + 1, gy_pa4 hm hn h1 k (k + 1) (by omega) (by omega) h⟩
theorem gy_na4 {post : Int32 → Prop} {mb n : Nat} (hm : mb < 4) (hn : n < 9) (h1 : 1 ≤ n) :
    ∀ d a m, a + d = n → d < m → post (nI (gv_nx mb n d a)) → wY_nextAnchor_4 post yq yr (nI mb) (nI n) yp yd yx yy inq req yo ymo yve ynz ypp ypd yzc m (nI a) := by
  intro d
  induction d with
  | zero =>
    intro a m ha hm' h
    obtain ⟨m, rfl⟩ : ∃ j, m = j + 1 := ⟨m - 1, by omega⟩
    refine br_t (nI_le (by omega) (by omega)) ?_
    rw [gv_m1 h1]
    exact h
  | succ d ih =>
    intro a m ha hm' h
    obtain ⟨m, rfl⟩ : ∃ j, m = j + 1 := ⟨m - 1, by omega⟩
    rw [show gv_nx mb n (d + 1) a = if gv_ty mb n a = 2 then gv_nx mb n d (a + 1) else a from rfl] at h
    refine br_f (nI_ge (by omega) (by omega)) (gy_type hm hn h1 (by omega) (br_c (fun c => nm_r (nI_1 a) ?_) (fun c => ?_)))
    · rw [if_pos (gv_ty2.mp c)] at h
      exact ih (a + 1) m (by omega) (by omega) h
    · rw [if_neg (fun z => c (gv_ty2.mpr z))] at h
      exact h
theorem gy_next {post : Int32 → Prop} {mb n k : Nat} (hm : mb < 4) (hn : n < 9) (h1 : 1 ≤ n) (hk : k < n) (h : post (nI (gv_na mb n k))) : wpY_nextAnchor post (yq, yr, nI mb, nI n, yp, yd, yx, yy, inq, req, yo, ymo, yve, ynz, ypp, ypd, yzc) (nI k) :=
  nm_r (nI_1 k) ⟨n + 1, gy_na4 hm hn h1 (n - (k + 1)) (k + 1) (n + 1) (by omega) (by omega) h⟩
end
end
section
/-! Y: sad, search, fill, biSad, setPred, fwd, inv -/
theorem gy_xy : ∀ b, b < 4 → ∀ t, t < 16 → (4 * (nI b - nI b / 2 * 2)) + (nI t - nI t / 4 * 4) = nI (4 * (b % 2) + t % 4) ∧ (4 * (nI b / 2)) + (nI t / 4) = nI (4 * (b / 2) + t / 4) := by decide +kernel
theorem gy_t4 : ∀ t, t < 16 → nI t / 4 = nI (t / 4) ∧ nI t - nI t / 4 * 4 = nI (t % 4) := by decide +kernel
theorem gv_id_e (f b t : Nat) : f * 64 + (4 * (b / 2) + t / 4) * 8 + (4 * (b % 2) + t % 4) = f * 64 + gv_id b t := by unfold gv_id; omega
theorem gv_ln_e (r i : Nat) : gv_ln r i = gv_ab (gv_vx r i) + gv_ab (gv_vy r i) := rfl
def gv_YS (C L : gv_F) (r i : Nat) (x4 bx bY : Int32) : Prop := (i = 0 ∧ x4 = -1) ∨ (0 < i ∧ x4 = C (gv_bi C L i) ∧ bx = gv_vx r (gv_bi C L i) ∧ bY = gv_vy r (gv_bi C L i))
section
variable {yq yr yb yn yp yd yx yy : Int32} {inq req yo ymo yve ynz ypp ypd yzc : Nat → Int32}
variable {r f b s q : Nat}
theorem gy_sad6 {post : Int32 → Prop} {vx vy : Int32} (hf : f < 8) (hb : b < 4) (hs : s < 8) (h : post (gv_ct inq f b (gv_ft req s b vx vy))) :
    ∀ d i n, i + d = 16 → d < n → wY_sad_6 post (nI s) (nI f) (nI b) vx vy yq yr yb yn yp yd yx yy inq req yo ymo yve ynz ypp ypd yzc n (gv_sm (fun t => gv_ab (inq (f * 64 + gv_id b t) - gv_ft req s b vx vy t)) i) (nI i) := by
  intro d
  induction d with
  | zero =>
    intro i n hi hn
    obtain ⟨n, rfl⟩ : ∃ m, n = m + 1 := ⟨n - 1, by omega⟩
    obtain rfl : i = 16 := by omega
    exact br_t (by decide) h
  | succ d ih =>
    intro i n hi hn
    obtain ⟨n, rfl⟩ : ∃ m, n = m + 1 := ⟨n - 1, by omega⟩
    obtain ⟨ex, ey⟩ := gy_xy b hb i (by omega)
    have p1 := gv_pin2 hs (gv_c7_e (nI (4 * (b / 2) + i / 4) + vy)).2 (gv_c7_e (nI (4 * (b % 2) + i % 4) + vx)).2
    have p2 := gv_pin hf hb (t := i) (by omega)
    refine br_f (nI_ge (b := 16) (by omega) (by decide)) ⟨by decide, by decide, nm_r ex ⟨by decide, by decide, nm_r ey (gy_cl rfl (gy_cl rfl ⟨?_, nm_r (e' := gv_ft req s b vx vy i) ?_ ⟨?_, gy_abs (nm_r (e' := gv_sm (fun t => gv_ab (inq (f * 64 + gv_id b t) - gv_ft req s b vx vy t)) (i + 1)) ?_ (nm_r (nI_1 i) (ih (i + 1) n (by omega) (by omega))))⟩⟩))⟩⟩
    · rw [gx_ld]; exact vp_in_nI p1 (by decide)
    · rw [gx_ld, nI_clamp (by omega)]; rfl
    · rw [gx_ld, gv_id_e]; exact vp_in_nI p2 (by decide)
    · rw [gx_ld, gv_id_e, nI_clamp (by omega)]; rfl
theorem gy_sad {post : Int32 → Prop} {vx vy : Int32} (hf : f < 8) (hb : b < 4) (hs : s < 8) (h : post (gv_ct inq f b (gv_ft req s b vx vy))) : wpY_sad post (yq, yr, yb, yn, yp, yd, yx, yy, inq, req, yo, ymo, yve, ynz, ypp, ypd, yzc) (nI s) (nI f) (nI b) vx vy :=
  ⟨17, gy_sad6 hf hb hs h 16 0 17 rfl (by decide)⟩
theorem gy_s26 {post : Int32 → SY → Prop} {JJ : Int32 → Int32 → Int32 → Int32 → Prop} {a : Nat} (hr : r < 3) (hf : f < 8) (hb : b < 4) (hs : s < 8) (ha : a < 2 * r + 1) (hi : gv_P inq) (hR : gv_P req)
    (h : ∀ x4 bx bY : Int32, gv_YS (gv_sc inq req r s f b) (gv_ln r) r ((a + 1) * (2 * r + 1)) x4 bx bY → JJ x4 (nI (a + 1) - nI r) bx bY) :
    ∀ d j n, j + d = 2 * r + 1 → d < n → ∀ x4 bx bY : Int32, gv_YS (gv_sc inq req r s f b) (gv_ln r) r (a * (2 * r + 1) + j) x4 bx bY →
      wY_search_26 post JJ (nI s) (nI f) (nI b) (nI a - nI r) yq (nI r) yb yn yp yd inq req yo ymo yve ynz ypp ypd yzc n x4 (nI j - nI r) bx bY := by
  intro d
  induction d with
  | zero =>
    intro j n hj hn x4 bx bY H
    obtain ⟨n, rfl⟩ : ∃ m, n = m + 1 := ⟨n - 1, by omega⟩
    obtain rfl : j = 2 * r + 1 := by omega
    rw [show a * (2 * r + 1) + (2 * r + 1) = (a + 1) * (2 * r + 1) from (Nat.succ_mul _ _).symm] at H
    exact br_t ((gv_vr r hr _ (by omega)).mpr (by omega)) (nm_r (gv_v1 r hr a (by omega)) (h x4 bx bY H))
  | succ d ih =>
    intro j n hj hn x4 bx bY H
    obtain ⟨n, rfl⟩ : ∃ m, n = m + 1 := ⟨n - 1, by omega⟩
    obtain ⟨ex, ey⟩ := gv_vxe (r := r) (a := a) (j := j) (by omega)
    have e8 := gv_v1 r hr j (by omega)
    have I := fun x4 bx bY => ih (j + 1) n (by omega) (by omega) x4 bx bY
    rw [← Nat.add_assoc] at I
    refine br_f (fun z => by have := (gv_vr r hr j (by omega)).mp z; omega) (gy_sad hf hb hs ?_)
    have eC : gv_ct inq f b (gv_ft req s b (nI j - nI r) (nI a - nI r)) = gv_sc inq req r s f b (a * (2 * r + 1) + j) := by
      unfold gv_sc; rw [ex, ey]
    rw [eC]
    have hC := fun k => gv_sc_b hi hR r s f b k
    generalize gv_sc inq req r s f b = C at H I hC ⊢
    generalize hk : a * (2 * r + 1) + j = k at H I ex ey ⊢
    have T : (k = 0 ∨ C k < C (gv_bi C (gv_ln r) k) ∨ (C k = C (gv_bi C (gv_ln r) k) ∧ gv_ln r k < gv_ln r (gv_bi C (gv_ln r) k))) → gv_YS C (gv_ln r) r (k + 1) (C k) (nI j - nI r) (nI a - nI r) := by
      intro c
      have e : gv_bi C (gv_ln r) (k + 1) = k := by
        by_cases z : k = 0
        · subst z; rfl
        · exact gv_bi_t z (by rcases c with c | c; exact absurd c z; exact c)
      refine Or.inr ⟨by omega, ?_⟩
      rw [e, ex, ey]
      exact ⟨rfl, rfl, rfl⟩
    have W : gv_YS C (gv_ln r) r (k + 1) (C k) (nI j - nI r) (nI a - nI r) → wY_search_100 post JJ (wY_search_26 post JJ (nI s) (nI f) (nI b) (nI a - nI r) yq (nI r) yb yn yp yd inq req yo ymo yve ynz ypp ypd yzc n) (nI s) (nI f) (nI b) (nI a - nI r) (nI j - nI r) (C k) yq (nI r) yb yn yp yd bx bY inq req yo ymo yve ynz ypp ypd yzc := fun H' => nm_r e8 (I _ _ _ H')
    rcases H with ⟨k0, rfl⟩ | ⟨k0, h1, h2, h3⟩
    · exact br_t (by decide) (W (T (Or.inl k0)))
    · have hx4 : ¬ x4 < 0 := by
        rw [h1, gv_lt, gv_i0]
        have := (hC (gv_bi C (gv_ln r) k)).1
        omega
      have K : ¬ (C k < C (gv_bi C (gv_ln r) k) ∨ (C k = C (gv_bi C (gv_ln r) k) ∧ gv_ln r k < gv_ln r (gv_bi C (gv_ln r) k))) → gv_YS C (gv_ln r) r (k + 1) x4 bx bY := by
        intro c
        refine Or.inr ⟨by omega, ?_⟩
        rw [gv_bi_f (by omega) c]
        exact ⟨h1, h2, h3⟩
      refine br_f hx4 (br_c (fun c1 => W (T (Or.inr (Or.inl (h1 ▸ c1))))) (fun c1 => br_c (fun c2 => gy_abs (gy_abs (gy_abs (gy_abs (br_c (fun c3 => nm_r e8 (I _ _ _ (K ?_))) (fun c3 => W (T (Or.inr (Or.inr ⟨c2.trans h1, ?_⟩))))))))) (fun c2 => nm_r e8 (I _ _ _ (K ?_)))))
      · rintro (z | ⟨-, z⟩)
        · exact c1 (h1.symm ▸ z)
        · rw [gv_ln_e, gv_ln_e, ex, ey, ← h2, ← h3] at z
          exact Int32.not_lt.mpr c3 z
      · rw [gv_ln_e, gv_ln_e, ex, ey, ← h2, ← h3]
        exact Int32.not_le.mp c3
      · rintro (z | ⟨z, -⟩)
        · exact c1 (h1.symm ▸ z)
        · exact c2 (z.trans h1.symm)
theorem gy_s10 {post : Int32 → SY → Prop} (hr : r < 3) (hf : f < 8) (hb : b < 4) (hs : s < 8) (hi : gv_P inq) (hR : gv_P req)
    (h : post (gv_c1 inq req r f b s) (yq, nI r, yb, yn, yp, yd, gv_vx r (gv_se inq req r s f b), gv_vy r (gv_se inq req r s f b), inq, req, yo, ymo, yve, ynz, ypp, ypd, yzc)) :
    ∀ d a n, a + d = 2 * r + 1 → d < n → ∀ x4 bx bY : Int32, gv_YS (gv_sc inq req r s f b) (gv_ln r) r (a * (2 * r + 1)) x4 bx bY →
      wY_search_10 post (nI s) (nI f) (nI b) yq (nI r) yb yn yp yd inq req yo ymo yve ynz ypp ypd yzc n x4 (nI a - nI r) bx bY := by
  intro d
  induction d with
  | zero =>
    intro a n ha hn x4 bx bY H
    obtain ⟨n, rfl⟩ : ∃ m, n = m + 1 := ⟨n - 1, by omega⟩
    obtain rfl : a = 2 * r + 1 := by omega
    rcases H with ⟨z, -⟩ | ⟨-, h1, h2, h3⟩
    · have : 0 < (2 * r + 1) * (2 * r + 1) := Nat.mul_pos (by omega) (by omega)
      omega
    · subst h1 h2 h3
      exact br_t ((gv_vr r hr _ (by omega)).mpr (by omega)) h
  | succ d ih =>
    intro a n ha hn x4 bx bY H
    obtain ⟨n, rfl⟩ : ∃ m, n = m + 1 := ⟨n - 1, by omega⟩
    exact br_f (fun z => by have := (gv_vr r hr a (by omega)).mp z; omega) (nm_r (gv_v0 r hr) ⟨2 * r + 2, gy_s26 hr hf hb hs (by omega) hi hR (fun x4 bx bY H' => ih (a + 1) n (by omega) (by omega) x4 bx bY H') (2 * r + 1) 0 (2 * r + 2) (by omega) (by omega) x4 bx bY H⟩)
theorem gy_search {post : Int32 → SY → Prop} (hr : r < 3) (hf : f < 8) (hb : b < 4) (hs : s < 8) (hi : gv_P inq) (hR : gv_P req)
    (h : post (gv_c1 inq req r f b s) (yq, nI r, yb, yn, yp, yd, gv_vx r (gv_se inq req r s f b), gv_vy r (gv_se inq req r s f b), inq, req, yo, ymo, yve, ynz, ypp, ypd, yzc)) : wpY_search post (yq, nI r, yb, yn, yp, yd, yx, yy, inq, req, yo, ymo, yve, ynz, ypp, ypd, yzc) (nI s) (nI f) (nI b) :=
  nm_r (gv_v0 r hr) ⟨2 * r + 2, gy_s10 hr hf hb hs hi hR h (2 * r + 1) 0 (2 * r + 2) (by omega) (by omega) (-1) yx yy (Or.inl ⟨by omega, rfl⟩)⟩
theorem gy_fill3 {post : SY → Prop} {vx vy : Int32} {O : Nat} (hb : b < 4) (hs : s < 8) (hO : O ≤ 16) (h : post (yq, yr, yb, yn, yp, yd, yx, yy, inq, req, yo, ymo, yve, ynz, gv_wr ypp (fun t => O + t) (gv_ft req s b vx vy) 16, ypd, yzc)) :
    ∀ d i n, i + d = 16 → d < n → wY_fill_3 post (nI s) (nI b) vx vy (nI O) yq yr yb yn yp yd yx yy n (nI i) inq req yo ymo yve ynz (gv_wr ypp (fun t => O + t) (gv_ft req s b vx vy) i) ypd yzc := by
  intro d
  induction d with
  | zero =>
    intro i n hi hn
    obtain ⟨n, rfl⟩ : ∃ m, n = m + 1 := ⟨n - 1, by omega⟩
    obtain rfl : i = 16 := by omega
    exact br_t (by decide) h
  | succ d ih =>
    intro i n hi hn
    obtain ⟨n, rfl⟩ : ∃ m, n = m + 1 := ⟨n - 1, by omega⟩
    obtain ⟨ex, ey⟩ := gy_xy b hb i (by omega)
    have p1 := gv_pin2 hs (gv_c7_e (nI (4 * (b / 2) + i / 4) + vy)).2 (gv_c7_e (nI (4 * (b % 2) + i % 4) + vx)).2
    refine br_f (nI_ge (b := 16) (by omega) (by decide)) ⟨by decide, by decide, nm_r ex ⟨by decide, by decide, nm_r ey (gy_cl rfl (gy_cl rfl ⟨?_, ?_, nm_r (e' := gv_wr ypp (fun t => O + t) (gv_ft req s b vx vy) (i + 1)) ?_ (nm_r (nI_1 i) (ih (i + 1) n (by omega) (by omega)))⟩))⟩⟩
    · rw [gx_ld]; exact vp_in_nI p1 (by decide)
    · rw [nI_add]; exact vp_in_nI (by omega) (by decide)
    · rw [gx_ld, nI_add, nI_clamp (by omega), nI_clamp (by omega)]; rfl
theorem gy_fill {post : SY → Prop} {vx vy : Int32} (O : Nat) (hb : b < 4) (hs : s < 8) (hO : O ≤ 16) (h : ∀ A : gv_F, (∀ t, t < 16 → A (O + t) = gv_ft req s b vx vy t) → (∀ j, j < O → A j = ypp j) → post (yq, yr, yb, yn, yp, yd, yx, yy, inq, req, yo, ymo, yve, ynz, A, ypd, yzc)) : wpY_fill post (yq, yr, yb, yn, yp, yd, yx, yy, inq, req, yo, ymo, yve, ynz, ypp, ypd, yzc) (nI s) (nI b) vx vy (nI O) :=
  ⟨17, gy_fill3 hb hs hO (h _ (fun t ht => gv_wr_h (g := fun t => O + t) 16 (fun j _ e => by omega) ht) (fun j hj => gv_wr_m 16 (fun i _ e => by omega))) 16 0 17 rfl (by decide)⟩
theorem gy_bi5 {post : Int32 → Prop} {P : gv_F} (hf : f < 8) (hb : b < 4) (hP : ∀ t, t < 16 → (ypp t + ypp (16 + t) + 1) >>> ((1 : Int32) &&& 31) = P t) (h : post (gv_ct inq f b P)) :
    ∀ d i n, i + d = 16 → d < n → wY_biSad_5 post (nI f) (nI b) yq yr yb yn yp yd yx yy inq req yo ymo yve ynz ypp ypd yzc n (gv_sm (fun t => gv_ab (inq (f * 64 + gv_id b t) - P t)) i) (nI i) := by
  intro d
  induction d with
  | zero =>
    intro i n hi hn
    obtain ⟨n, rfl⟩ : ∃ m, n = m + 1 := ⟨n - 1, by omega⟩
    obtain rfl : i = 16 := by omega
    exact br_t (by decide) h
  | succ d ih =>
    intro i n hi hn
    obtain ⟨n, rfl⟩ : ∃ m, n = m + 1 := ⟨n - 1, by omega⟩
    have p2 := gv_pin hf hb (t := i) (by omega)
    have e64 : nI f * 64 + nI (gv_id b i) = nI (f * 64 + gv_id b i) := by rw [show (64 : Int32) = nI 64 from rfl, pk_mul, nI_add]
    have e16 : (16 : Int32) + nI i = nI (16 + i) := nI_add 16 i
    refine br_f (nI_ge (b := 16) (by omega) (by decide)) (gy_idx hb (by omega) ⟨?_, vp_in_nI (by omega) (by decide), ?_, gy_abs (nm_r (e' := gv_sm (fun t => gv_ab (inq (f * 64 + gv_id b t) - P t)) (i + 1)) ?_ (nm_r (nI_1 i) (ih (i + 1) n (by omega) (by omega))))⟩)
    · rw [e64]; exact vp_in_nI p2 (by decide)
    · rw [e16]; exact vp_in_nI (by omega) (by decide)
    · rw [e64, e16, nI_clamp (by omega), nI_clamp (by omega), nI_clamp (by omega), hP i (by omega)]; rfl
theorem gy_biSad {post : Int32 → Prop} {P : gv_F} (hf : f < 8) (hb : b < 4) (hP : ∀ t, t < 16 → (ypp t + ypp (16 + t) + 1) >>> ((1 : Int32) &&& 31) = P t) (h : post (gv_ct inq f b P)) : wpY_biSad post (yq, yr, yb, yn, yp, yd, yx, yy, inq, req, yo, ymo, yve, ynz, ypp, ypd, yzc) (nI f) (nI b) :=
  ⟨17, gy_bi5 hf hb hP h 16 0 17 rfl (by decide)⟩
/-- the prediction from the two fetched blocks -/
def gv_sp (A : gv_F) (m t : Nat) : Int32 := if m = 0 then 128 else if m = 1 then A t else if m = 2 then A (16 + t) else (A t + A (16 + t) + 1) >>> ((1 : Int32) &&& 31)
theorem gy_sp2 {post : SY → Prop} {m : Nat} (hm : m < 4) (h : post (yq, yr, yb, yn, yp, yd, yx, yy, inq, req, yo, ymo, yve, ynz, ypp, gv_wi ypd (gv_sp ypp m) 16, yzc)) :
    ∀ d i n, i + d = 16 → d < n → wY_setPred_2 post (nI m) yq yr yb yn yp yd yx yy n (nI i) inq req yo ymo yve ynz ypp (gv_wi ypd (gv_sp ypp m) i) yzc := by
  intro d
  induction d with
  | zero =>
    intro i n hi hn
    obtain ⟨n, rfl⟩ : ∃ m, n = m + 1 := ⟨n - 1, by omega⟩
    obtain rfl : i = 16 := by omega
    exact br_t (by decide) h
  | succ d ih =>
    intro i n hi hn
    obtain ⟨n, rfl⟩ : ∃ m, n = m + 1 := ⟨n - 1, by omega⟩
    have I := ih (i + 1) n (by omega) (by omega)
    have hv : vp_in (nI i) 16 := vp_in_nI (by omega) (by decide)
    have hw : vp_in (nI i) 32 := vp_in_nI (by omega) (by decide)
    have e16 : (16 : Int32) + nI i = nI (16 + i) := nI_add 16 i
    have hz : vp_in (16 + nI i) 32 := by rw [e16]; exact vp_in_nI (by omega) (by decide)
    have ec : (nI i).toNatClampNeg = i := nI_clamp (by omega)
    have ed : (16 + nI i).toNatClampNeg = 16 + i := by rw [e16]; exact nI_clamp (by omega)
    refine br_f (nI_ge (b := 16) (by omega) (by decide)) ?_
    rcases (by omega : m = 0 ∨ m = 1 ∨ m = 2 ∨ m = 3) with rfl | rfl | rfl | rfl
    · exact br_t rfl ⟨hv, nm_r (by rw [ec]; rfl) (nm_r (nI_1 i) I)⟩
    · exact br_f (by decide) (br_t rfl ⟨hw, hv, nm_r (by rw [ec]; rfl) (nm_r (nI_1 i) I)⟩)
    · exact br_f (by decide) (br_f (by decide) (br_t rfl ⟨hz, hv, nm_r (by rw [ec, ed]; rfl) (nm_r (nI_1 i) I)⟩))
    · exact br_f (by decide) (br_f (by decide) (br_f (by decide) ⟨hw, hz, hv, nm_r (by rw [ec, ed]; rfl) (nm_r (nI_1 i) I)⟩))
theorem gy_setPred {post : SY → Prop} {m : Nat} (hm : m < 4) (h : ∀ P : gv_F, (∀ t, t < 16 → P t = gv_sp ypp m t) → post (yq, yr, yb, yn, yp, yd, yx, yy, inq, req, yo, ymo, yve, ynz, ypp, P, yzc)) : wpY_setPred post (yq, yr, yb, yn, yp, yd, yx, yy, inq, req, yo, ymo, yve, ynz, ypp, ypd, yzc) (nI m) :=
  ⟨17, gy_sp2 hm (h _ (fun t ht => gv_wi_h ht)) 16 0 17 rfl (by decide)⟩
theorem gy_fwd6 {post : Int32 → Prop} {P : gv_F} {t : Nat} (ht : t < 16) (hf : f < 8) (hb : b < 4) (hP : ∀ s, s < 16 → ypd s = P s) (h : post (gv_tr (gv_rs inq f b P) t)) :
    ∀ d i n, i + d = 16 → d < n → wY_fwd_6 post (nI f) (nI b) (nI (t / 4)) (nI (t % 4)) yq yr yb yn yp yd yx yy inq req yo ymo yve ynz ypp ypd yzc n (gv_sm (gv_tf (gv_rs inq f b P) t) i) (nI i) := by
  intro d
  induction d with
  | zero =>
    intro i n hi hn
    obtain ⟨n, rfl⟩ : ∃ m, n = m + 1 := ⟨n - 1, by omega⟩
    obtain rfl : i = 16 := by omega
    exact br_t (by decide) h
  | succ d ih =>
    intro i n hi hn
    obtain ⟨n, rfl⟩ : ∃ m, n = m + 1 := ⟨n - 1, by omega⟩
    have p2 := gv_pin hf hb (t := i) (by omega)
    obtain ⟨e1, e2⟩ := gy_t4 i (by omega)
    have e64 : nI f * 64 + nI (gv_id b i) = nI (f * 64 + gv_id b i) := by rw [show (64 : Int32) = nI 64 from rfl, pk_mul, nI_add]
    refine br_f (nI_ge (b := 16) (by omega) (by decide)) ⟨by decide, gy_hm rfl e1 (by omega) (by omega) (gy_idx hb (by omega) ⟨?_, vp_in_nI (by omega) (by decide), by decide, gy_hm rfl e2 (by omega) (by omega) (nm_r (e' := gv_sm (gv_tf (gv_rs inq f b P) t) (i + 1)) ?_ (nm_r (nI_1 i) (ih (i + 1) n (by omega) (by omega))))⟩)⟩
    · rw [e64]; exact vp_in_nI p2 (by decide)
    · rw [e64, nI_clamp (by omega), nI_clamp (by omega), hP i (by omega)]; rfl
theorem gy_fwd {post : Int32 → Prop} {P : gv_F} {t : Nat} {x y : Int32} (ex : x = nI (t / 4)) (ey : y = nI (t % 4)) (ht : t < 16) (hf : f < 8) (hb : b < 4) (hP : ∀ s, s < 16 → ypd s = P s) (h : post (gv_tr (gv_rs inq f b P) t)) : wpY_fwd post (yq, yr, yb, yn, yp, yd, yx, yy, inq, req, yo, ymo, yve, ynz, ypp, ypd, yzc) (nI f) (nI b) x y := by
  subst ex ey
  exact ⟨17, gy_fwd6 ht hf hb hP h 16 0 17 rfl (by decide)⟩
theorem gy_inv5 {post : Int32 → Prop} {Z : gv_F} {t : Nat} (ht : t < 16) (hZ : ∀ s, s < 16 → yzc s = Z s) (h : post (gv_tr Z t)) :
    ∀ d i n, i + d = 16 → d < n → wY_inv_5 post (nI (t / 4)) (nI (t % 4)) yq yr yb yn yp yd yx yy inq req yo ymo yve ynz ypp ypd yzc n (gv_sm (gv_tf Z t) i) (nI i) := by
  intro d
  induction d with
  | zero =>
    intro i n hi hn
    obtain ⟨n, rfl⟩ : ∃ m, n = m + 1 := ⟨n - 1, by omega⟩
    obtain rfl : i = 16 := by omega
    exact br_t (by decide) h
  | succ d ih =>
    intro i n hi hn
    obtain ⟨n, rfl⟩ : ∃ m, n = m + 1 := ⟨n - 1, by omega⟩
    obtain ⟨e1, e2⟩ := gy_t4 i (by omega)
    refine br_f (nI_ge (b := 16) (by omega) (by decide)) ⟨by decide, gy_hm e1 rfl (by omega) (by omega) ⟨vp_in_nI (by omega) (by decide), by decide, gy_hm e2 rfl (by omega) (by omega) (nm_r (e' := gv_sm (gv_tf Z t) (i + 1)) ?_ (nm_r (nI_1 i) (ih (i + 1) n (by omega) (by omega))))⟩⟩
    rw [nI_clamp (by omega), hZ i (by omega), gv_h_sym (i / 4) (by omega) (t / 4) (by omega), gv_h_sym (i % 4) (by omega) (t % 4) (by omega)]
    rfl
theorem gy_inv {post : Int32 → Prop} {Z : gv_F} {t : Nat} {x y : Int32} (ex : x = nI (t / 4)) (ey : y = nI (t % 4)) (ht : t < 16) (hZ : ∀ s, s < 16 → yzc s = Z s) (h : post (gv_tr Z t)) : wpY_inv post (yq, yr, yb, yn, yp, yd, yx, yy, inq, req, yo, ymo, yve, ynz, ypp, ypd, yzc) x y := by
  subst ex ey
  exact ⟨17, gy_inv5 ht hZ h 16 0 17 rfl (by decide)⟩
end
end
section
/-! Y: codeBlock -/
section
variable {yq yr yb yn yp yd yx yy : Int32} {inq req yo ymo yve ynz ypp ypd yzc : Nat → Int32}
variable {f b q r mb N : Nat}
theorem gy_cb354 {post : SY → Prop} {P L : gv_F} (hf : f < 8) (hb : b < 4) (hP : ∀ t, t < 16 → ypd t = P t) (hZ : ∀ t, t < 16 → yzc t = L t * nI q) (h : post (yq, yr, yb, yn, yp, yd, yx, yy, inq, gv_wr req (fun t => f * 64 + gv_id b t) (gv_rb P L q) 16, yo, ymo, yve, ynz, ypp, ypd, yzc)) :
    ∀ d i n, i + d = 16 → d < n → wY_codeBlock_354 post (nI f) (nI b) yq yr yb yn yp yd yx yy n (nI i) inq (gv_wr req (fun t => f * 64 + gv_id b t) (gv_rb P L q) i) yo ymo yve ynz ypp ypd yzc := by
  intro d
  induction d with
  | zero =>
    intro i n hi hn
    obtain ⟨n, rfl⟩ : ∃ m, n = m + 1 := ⟨n - 1, by omega⟩
    obtain rfl : i = 16 := by omega
    exact br_t (by decide) h
  | succ d ih =>
    intro i n hi hn
    obtain ⟨n, rfl⟩ : ∃ m, n = m + 1 := ⟨n - 1, by omega⟩
    have p2 := gv_pin hf hb (t := i) (by omega)
    obtain ⟨e1, e2⟩ := gy_t4 i (by omega)
    have e64 : nI f * 64 + nI (gv_id b i) = nI (f * 64 + gv_id b i) := by rw [show (64 : Int32) = nI 64 from rfl, pk_mul, nI_add]
    refine br_f (nI_ge (b := 16) (by omega) (by decide)) ⟨by decide, by decide, gy_inv (Z := fun s => L s * nI q) e1 e2 (by omega) hZ (nm_e (gy_idx hb (by omega) ⟨vp_in_nI (by omega) (by decide), gy_c255 ⟨?_, nm_r (e' := gv_wr req (fun t => f * 64 + gv_id b t) (gv_rb P L q) (i + 1)) ?_ (nm_r (nI_1 i) (ih (i + 1) n (by omega) (by omega)))⟩⟩))⟩
    · rw [e64]; exact vp_in_nI p2 (by decide)
    · rw [e64, nI_clamp (by omega), nI_clamp (by omega), hP i (by omega)]; rfl
theorem gy_cb262 {post : SY → Prop} {P : gv_F} {k : Nat} (hq1 : 1 ≤ q) (hq2 : q ≤ 64) (hf : f < 8) (hb : b < 4) (hk : k < 32) (hP : ∀ t, t < 16 → ypd t = P t)
    (h : ∀ Z : gv_F, post (nI q, yr, yb, yn, yp, yd, yx, yy, inq, gv_wr req (fun t => f * 64 + gv_id b t) (gv_rb P (gv_lv inq f b q P) q) 16, yo, ymo, yve, upd ynz k (gv_nz (gv_lv inq f b q P)), ypp, ypd, Z)) :
    ∀ d i n, i + d = 16 → d < n → wY_codeBlock_262 post (nI f) (nI b) (nI k) (nI q) yr yb yn yp yd yx yy n (gv_sm (fun t => if gv_lv inq f b q P t = 0 then 0 else 1) i) (nI i) inq req yo ymo yve ynz ypp ypd (gv_wi yzc (fun t => gv_lv inq f b q P t * nI q) i) := by
  intro d
  induction d with
  | zero =>
    intro i n hi hn
    obtain ⟨n, rfl⟩ : ∃ m, n = m + 1 := ⟨n - 1, by omega⟩
    obtain rfl : i = 16 := by omega
    refine br_t (by decide) ⟨vp_in_nI hk (by decide), nm_r (e' := upd ynz k (gv_nz (gv_lv inq f b q P))) (by rw [nI_clamp (by omega)]; rfl) ⟨17, gy_cb354 (P := P) (L := gv_lv inq f b q P) hf hb hP (fun t ht => gv_wi_h ht) (h _) 16 0 17 rfl (by decide)⟩⟩
  | succ d ih =>
    intro i n hi hn
    obtain ⟨n, rfl⟩ : ∃ m, n = m + 1 := ⟨n - 1, by omega⟩
    have I := ih (i + 1) n (by omega) (by omega)
    obtain ⟨e1, e2⟩ := gy_t4 i (by omega)
    have W : ∀ x9 : Int32, x9 = gv_lv inq f b q P i → wY_codeBlock_315 post (wY_codeBlock_262 post (nI f) (nI b) (nI k) (nI q) yr yb yn yp yd yx yy n) (nI f) (nI b) (nI k) (gv_sm (fun t => if gv_lv inq f b q P t = 0 then 0 else 1) i) (nI i) x9 (nI q) yr yb yn yp yd yx yy inq req yo ymo yve ynz ypp ypd (gv_wi yzc (fun t => gv_lv inq f b q P t * nI q) i) := by
      intro x9 e9
      subst e9
      have hv : vp_in (nI i) 16 := vp_in_nI (by omega) (by decide)
      have ez : upd (gv_wi yzc (fun t => gv_lv inq f b q P t * nI q) i) (nI i).toNatClampNeg (gv_lv inq f b q P i * nI q) = gv_wi yzc (fun t => gv_lv inq f b q P t * nI q) (i + 1) := by rw [nI_clamp (by omega)]; rfl
      rw [← gv_sm_s] at I
      refine br_c (fun c => ⟨hv, nm_r ez (nm_r (nI_1 i) ?_)⟩) (fun c => nm_e ⟨hv, nm_r ez (nm_r (nI_1 i) ?_)⟩)
      · rw [if_pos c, Int32.add_zero] at I
        exact I
      · rw [if_neg c] at I
        exact I
    refine br_f (nI_ge (b := 16) (by omega) (by decide)) ⟨by decide, by decide, gy_fwd (P := P) e1 e2 (by omega) hf hb hP (gy_abs ⟨by decide, nI_ne0 (by omega) (by omega), nm_e (br_c (fun c => W _ ?_) (fun c => nm_e (W _ ?_)))⟩)⟩
    · unfold gv_lv gv_qt
      rw [if_neg (Int32.not_lt.mpr c)]
    · unfold gv_lv gv_qt
      rw [if_pos (Int32.not_le.mp c)]
theorem gy_cb242 {post : SY → Prop} {PP : gv_F} {k m : Nat} (hm : m < 4) (hq1 : 1 ≤ q) (hq2 : q ≤ 64) (hf : f < 8) (hb : b < 4) (hk : k < 32) (hP : ∀ t, t < 16 → gv_sp ypp m t = PP t)
    (h : ∀ D Z : gv_F, post (nI q, yr, yb, yn, yp, yd, yx, yy, inq, gv_wr req (fun t => f * 64 + gv_id b t) (gv_rb PP (gv_lv inq f b q PP) q) 16, yo, upd ymo k (nI m), yve, upd ynz k (gv_nz (gv_lv inq f b q PP)), ypp, D, Z)) :
    wY_codeBlock_242 post (nI f) (nI b) (nI k) (nI m) (nI q) yr yb yn yp yd yx yy inq req yo ymo yve ynz ypp ypd yzc :=
  ⟨vp_in_nI hk (by decide), nm_r (e' := upd ymo k (nI m)) (by rw [nI_clamp (by omega)]) (gy_setPred hm (fun D hD => ⟨17, gy_cb262 (P := PP) hq1 hq2 hf hb hk (fun t ht => (hD t ht).trans (hP t ht)) (h D) 16 0 17 rfl (by decide)⟩))⟩
theorem gv_i4 {k : Nat} : nI k * 4 = nI (k * 4 + 0) := by rw [show (4 : Int32) = nI 4 from rfl, pk_mul]; rfl
theorem gv_i4c {k : Nat} (c : Nat) {x : Int32} (hx : x = nI c) : nI k * 4 + x = nI (k * 4 + c) := by subst hx; exact gx_4
/-- a store into one of the four places -/
theorem gv_w4_s {a V : gv_F} {k c : Nat} {x y : Int32} (hc : c < 4) (hk : k < 32) (e : y = nI (k * 4 + c)) : vp_in y 128 ∧ upd (gv_w4 a k V) y.toNatClampNeg x = gv_w4 a k (fun i => if i = c then x else V i) := by
  subst e
  rw [nI_clamp (by omega), gv_w4_u hc]
  exact ⟨vp_in_nI (by omega) (by decide), rfl⟩
variable {k : Nat} {fx fy bx bY : Int32} {V0 : gv_F}
theorem gy_cb214 {post : SY → Prop} {m : Nat} (hm : m ≠ 2) (hm4 : m < 4) (hk : k < 32) (h : wY_codeBlock_242 post (nI f) (nI b) (nI k) (nI m) yq yr yb yn yp yd yx yy inq req yo ymo (gv_w4 yve k (fun i => if i = 1 then fy else if i = 0 then fx else V0 i)) ynz ypp ypd yzc) :
    wY_codeBlock_214 post (nI f) (nI b) (nI k) (nI m) fx fy yq yr yb yn yp yd yx yy inq req yo ymo (gv_w4 yve k V0) ynz ypp ypd yzc := by
  obtain ⟨a1, a2⟩ := gv_w4_s (a := yve) (V := V0) (c := 0) (x := fx) (by decide) hk gv_i4
  obtain ⟨c1, c2⟩ := gv_w4_s (a := yve) (V := fun i => if i = 0 then fx else V0 i) (c := 1) (x := fy) (by decide) hk (gv_i4c 1 rfl)
  exact br_f (fun z => hm ((nI_eq (b := 2) (by omega) (by decide)).mp z)) ⟨a1, nm_r a2 ⟨c1, nm_r c2 h⟩⟩
theorem gy_cb184 {post : SY → Prop} {m : Nat} (hm : m ≠ 1) (hm4 : m < 4) (hk : k < 32) (h : wY_codeBlock_214 post (nI f) (nI b) (nI k) (nI m) fx fy yq yr yb yn yp yd yx yy inq req yo ymo (gv_w4 yve k (fun i => if i = 3 then bY else if i = 2 then bx else V0 i)) ynz ypp ypd yzc) :
    wY_codeBlock_184 post (nI f) (nI b) (nI k) (nI m) fx fy bx bY yq yr yb yn yp yd yx yy inq req yo ymo (gv_w4 yve k V0) ynz ypp ypd yzc := by
  obtain ⟨a1, a2⟩ := gv_w4_s (a := yve) (V := V0) (c := 2) (x := bx) (by decide) hk (gv_i4c 2 rfl)
  obtain ⟨c1, c2⟩ := gv_w4_s (a := yve) (V := fun i => if i = 2 then bx else V0 i) (c := 3) (x := bY) (by decide) hk (gv_i4c 3 rfl)
  exact br_f (fun z => hm ((nI_eq (b := 1) (by omega) (by decide)).mp z)) ⟨a1, nm_r a2 ⟨c1, nm_r c2 h⟩⟩
theorem gv_4 {A B : gv_F} (h0 : A 0 = B 0) (h1 : A 1 = B 1) (h2 : A 2 = B 2) (h3 : A 3 = B 3) : ∀ c, c < 4 → A c = B c := by
  intro c hc
  rcases (by omega : c = 0 ∨ c = 1 ∨ c = 2 ∨ c = 3) with rfl | rfl | rfl | rfl <;> assumption
theorem gv_vu_0 {inp R : gv_F} {r f b past next : Nat} : gv_vu inp R r f b past next 0 = gv_vx r (gv_se inp R r past f b) := if_pos rfl
theorem gv_vu_1 {inp R : gv_F} {r f b past next : Nat} : gv_vu inp R r f b past next 1 = gv_vy r (gv_se inp R r past f b) := by unfold gv_vu; rw [if_neg (by decide), if_pos rfl]
theorem gv_vu_2 {inp R : gv_F} {r f b past next : Nat} : gv_vu inp R r f b past next 2 = gv_vx r (gv_se inp R r next f b) := by unfold gv_vu; rw [if_neg (by decide), if_neg (by decide), if_pos rfl]
theorem gv_vu_3 {inp R : gv_F} {r f b past next : Nat} : gv_vu inp R r f b past next 3 = gv_vy r (gv_se inp R r next f b) := by unfold gv_vu; rw [if_neg (by decide), if_neg (by decide), if_neg (by decide)]
theorem gv_pr_0 {R V : gv_F} {b past next t : Nat} : gv_pr R b 0 V past next t = 128 := if_pos rfl
theorem gv_pr_1 {R V : gv_F} {b past next t : Nat} : gv_pr R b 1 V past next t = gv_ft R past b (V 0) (V 1) t := by unfold gv_pr; rw [if_neg (by decide), if_pos rfl]
theorem gv_pr_2 {R V : gv_F} {b past next t : Nat} : gv_pr R b 2 V past next t = gv_ft R next b (V 2) (V 3) t := by unfold gv_pr; rw [if_neg (by decide), if_neg (by decide), if_pos rfl]
theorem gv_pr_3 {R V : gv_F} {b past next t : Nat} : gv_pr R b 3 V past next t = (gv_ft R past b (V 0) (V 1) t + gv_ft R next b (V 2) (V 3) t + 1) >>> ((1 : Int32) &&& 31) := by unfold gv_pr; rw [if_neg (by decide), if_neg (by decide), if_neg (by decide)]
theorem gv_sp_0 {A : gv_F} {t : Nat} : gv_sp A 0 t = 128 := if_pos rfl
theorem gv_sp_1 {A : gv_F} {t : Nat} : gv_sp A 1 t = A t := by unfold gv_sp; rw [if_neg (by decide), if_pos rfl]
theorem gv_sp_2 {A : gv_F} {t : Nat} : gv_sp A 2 t = A (16 + t) := by unfold gv_sp; rw [if_neg (by decide), if_neg (by decide), if_pos rfl]
theorem gv_sp_3 {A : gv_F} {t : Nat} : gv_sp A 3 t = (A t + A (16 + t) + 1) >>> ((1 : Int32) &&& 31) := by unfold gv_sp; rw [if_neg (by decide), if_neg (by decide), if_neg (by decide)]
/-- the vectors that Y stores, mode by mode -/
theorem gv_yv0 {inp R : gv_F} {r f b past next : Nat} : ∀ c, c < 4 → (fun _ => 0 : gv_F) c = gv_vv inp R r 0 f b past next c :=
  gv_4 (by rw [gv_vv_f0 (by decide) (by decide)]) (by rw [gv_vv_f0 (by decide) (by decide)]) (by rw [gv_vv_b0 (by decide) (by decide)]) (by rw [gv_vv_b0 (by decide) (by decide)])
theorem gv_yv1 {inp R : gv_F} {r f b past next : Nat} : ∀ c, c < 4 → (fun i => if i = 1 then gv_vy r (gv_se inp R r past f b) else if i = 0 then gv_vx r (gv_se inp R r past f b) else 0 : gv_F) c = gv_vv inp R r 1 f b past next c :=
  gv_4 (by rw [gv_vv_f (by decide) (by decide), gv_vu_0]; rfl) (by rw [gv_vv_f (by decide) (by decide), gv_vu_1]; rfl) (by rw [gv_vv_b0 (by decide) (by decide)]; rfl) (by rw [gv_vv_b0 (by decide) (by decide)]; rfl)
theorem gv_yv2 {inp R : gv_F} {r f b past next : Nat} : ∀ c, c < 4 → (fun i => if i = 3 then gv_vy r (gv_se inp R r next f b) else if i = 2 then gv_vx r (gv_se inp R r next f b) else 0 : gv_F) c = gv_vv inp R r 2 f b past next c :=
  gv_4 (by rw [gv_vv_f0 (by decide) (by decide)]; rfl) (by rw [gv_vv_f0 (by decide) (by decide)]; rfl) (by rw [gv_vv_b2 (by decide) (by decide), gv_vu_2]; rfl) (by rw [gv_vv_b2 (by decide) (by decide), gv_vu_3]; rfl)
theorem gv_yv3 {inp R : gv_F} {r f b past next : Nat} : ∀ c, c < 4 → (fun i => if i = 1 then gv_vy r (gv_se inp R r past f b) else if i = 0 then gv_vx r (gv_se inp R r past f b) else (fun i => if i = 3 then gv_vy r (gv_se inp R r next f b) else if i = 2 then gv_vx r (gv_se inp R r next f b) else 0 : gv_F) i : gv_F) c = gv_vv inp R r 3 f b past next c :=
  gv_4 (by rw [gv_vv_f (by decide) (by decide), gv_vu_0]; rfl) (by rw [gv_vv_f (by decide) (by decide), gv_vu_1]; rfl) (by rw [gv_vv_b2 (by decide) (by decide), gv_vu_2]; rfl) (by rw [gv_vv_b2 (by decide) (by decide), gv_vu_3]; rfl)
theorem gv_blk_e {inp R M V Z : gv_F} {q r ty f b past next : Nat} : gv_blk inp q r ty f b past next (R, M, V, Z) =
    (gv_wr R (fun t => f * 64 + gv_id b t) (gv_rb (gv_pp R inp r ty f b past next) (gv_lv inp f b q (gv_pp R inp r ty f b past next)) q) 16, upd M (f * 4 + b) (nI (gv_mo inp R r ty f b past next)),
     gv_w4 V (f * 4 + b) (gv_vv inp R r (gv_mo inp R r ty f b past next) f b past next), upd Z (f * 4 + b) (gv_nz (gv_lv inp f b q (gv_pp R inp r ty f b past next)))) := rfl
/-- all that behind the choice of a mode is left to do -/
def gv_YK (post : SY → Prop) (q r mb N f b : Nat) (yp yd : Int32) (inq req yo ymo yve ynz ypd yzc : gv_F) : Prop :=
  ∀ (m : Nat) (yx yy : Int32) (pp V' : gv_F), m = gv_mo inq req r (gv_ty mb N f) f b (gv_pa mb N f) (gv_na mb N f) → (∀ t, t < 16 → gv_sp pp m t = gv_pr req b m (gv_vu inq req r f b (gv_pa mb N f) (gv_na mb N f)) (gv_pa mb N f) (gv_na mb N f) t) →
      (∀ c, c < 4 → V' c = gv_vv inq req r m f b (gv_pa mb N f) (gv_na mb N f) c) → wY_codeBlock_242 post (nI f) (nI b) (nI (f * 4 + b)) (nI m) (nI q) (nI r) (nI mb) (nI N) yp yd yx yy inq req yo ymo (gv_w4 yve (f * 4 + b) V') ynz pp ypd yzc
theorem gy_YK {post : SY → Prop} (hq1 : 1 ≤ q) (hq2 : q ≤ 64) (hf : f < 8) (hb : b < 4)
    (h : ∀ (yx yy : Int32) (pp pd zc : gv_F) (s : gv_Q), s = gv_blk inq q r (gv_ty mb N f) f b (gv_pa mb N f) (gv_na mb N f) (req, ymo, yve, ynz) → post (nI q, nI r, nI mb, nI N, yp, yd, yx, yy, inq, s.1, yo, s.2.1, s.2.2.1, s.2.2.2, pp, pd, zc)) :
    gv_YK post q r mb N f b yp yd inq req yo ymo yve ynz ypd yzc := by
  intro m yx yy pp V' em hs hV
  have hm4 : m < 4 := by rw [em]; exact gv_mo_4 _ _ _ _ _ _ _ _
  subst em
  refine gy_cb242 (PP := gv_pp req inq r (gv_ty mb N f) f b (gv_pa mb N f) (gv_na mb N f)) hm4 hq1 hq2 hf hb (by omega) hs (fun D Z => ?_)
  rw [gv_w4_c hV]
  exact h yx yy pp D Z _ gv_blk_e.symm
theorem gy_cb168 {post : SY → Prop} {A B : gv_F} (hf : f < 8) (hb : b < 4) (K : gv_YK post q r mb N f b yp yd inq req yo ymo yve ynz ypd yzc) (t2 : gv_ty mb N f = 2)
    (hA : ∀ t, t < 16 → B t = gv_ft req (gv_pa mb N f) b (gv_vx r (gv_se inq req r (gv_pa mb N f) f b)) (gv_vy r (gv_se inq req r (gv_pa mb N f) f b)) t)
    (hB : ∀ t, t < 16 → B (16 + t) = gv_ft req (gv_na mb N f) b (gv_vx r (gv_se inq req r (gv_na mb N f) f b)) (gv_vy r (gv_se inq req r (gv_na mb N f) f b)) t)
    (c : ¬ (gv_c1 inq req r f b (gv_pa mb N f) ≤ gv_c1 inq req r f b (gv_na mb N f) ∧ gv_c1 inq req r f b (gv_pa mb N f) ≤ gv_c3 inq req r f b (gv_pa mb N f) (gv_na mb N f))) :
    wY_codeBlock_168 post (nI f) (nI b) (nI (f * 4 + b)) (gv_vx r (gv_se inq req r (gv_pa mb N f) f b)) (gv_vy r (gv_se inq req r (gv_pa mb N f) f b)) (gv_c1 inq req r f b (gv_na mb N f)) (gv_vx r (gv_se inq req r (gv_na mb N f) f b)) (gv_vy r (gv_se inq req r (gv_na mb N f) f b)) (gv_c3 inq req r f b (gv_pa mb N f) (gv_na mb N f))
      (nI q) (nI r) (nI mb) (nI N) yp yd yx yy inq req yo ymo (gv_w4 yve (f * 4 + b) (fun _ => 0)) ynz B ypd yzc := by
  have em := gv_mo_2 (inp := inq) (R := req) (r := r) (f := f) (b := b) (past := gv_pa mb N f) (next := gv_na mb N f) t2
  rw [if_neg c] at em
  refine br_c (fun d => ?_) (fun d => ?_)
  · rw [if_neg (Int32.not_le.mpr d)] at em
    refine gy_cb184 (m := 3) (by decide) (by decide) (by omega) (gy_cb214 (m := 3) (by decide) (by decide) (by omega) (K 3 _ _ B _ em.symm (fun t ht => ?_) gv_yv3))
    rw [gv_sp_3, gv_pr_3, gv_vu_0, gv_vu_1, gv_vu_2, gv_vu_3, hA t ht, hB t ht]
  · rw [if_pos (Int32.not_lt.mp d)] at em
    refine gy_cb184 (m := 2) (by decide) (by decide) (by omega) (br_t rfl (K 2 _ _ B _ em.symm (fun t ht => ?_) gv_yv2))
    rw [gv_sp_2, gv_pr_2, gv_vu_2, gv_vu_3, hB t ht]
theorem gy_cbz {post : SY → Prop} {m : Nat} (hr : r < 3) (hm : mb < 4) (hN : N < 9) (h1 : 1 ≤ N) (hf : f < N) (hb : b < 4) (hi : gv_P inq) (hR : gv_P req) (K : gv_YK post q r mb N f b yp yd inq req yo ymo yve ynz ypd yzc) :
    wY_codeBlock_9 post (nI f) (nI b) (nI (f * 4 + b)) (nI q) (nI r) (nI mb) (nI N) yp yd yx yy (m + 1) 4 inq req yo ymo (gv_w4 yve (f * 4 + b) (fun _ => 0)) ynz ypp ypd yzc := by
  have hpn := gv_pa_lt mb hm N hN f hf
  have ht3 := gv_ty_3 mb N f
  refine br_t (by decide) (gy_type hm hN h1 (by omega) ?_)
  by_cases t0 : gv_ty mb N f = 0
  · refine br_t (by rw [t0]; rfl) (K 0 yx yy ypp (fun _ => 0) (gv_mo_0 t0).symm (fun t ht => ?_) gv_yv0)
    rw [gv_sp_0, gv_pr_0]
  refine br_f (fun z => t0 (gv_ty0.mp z)) (gy_prev hm hN h1 hf (gy_search hr (by omega) hb (by omega) hi hR (gy_fill 0 hb (by omega) (by decide) (fun A hA _ => ?_))))
  have hA' : ∀ t, t < 16 → A t = gv_ft req (gv_pa mb N f) b (gv_vx r (gv_se inq req r (gv_pa mb N f) f b)) (gv_vy r (gv_se inq req r (gv_pa mb N f) f b)) t := fun t ht => by
    have := hA t ht
    rw [Nat.zero_add] at this
    exact this
  by_cases t1 : gv_ty mb N f = 1
  · refine br_f (by rw [t1]; decide) (gy_cb214 (m := 1) (by decide) (by decide) (by omega) (K 1 _ _ A _ (gv_mo_1 t1).symm (fun t ht => ?_) gv_yv1))
    rw [gv_sp_1, gv_pr_1, gv_vu_0, gv_vu_1, hA' t ht]
  have t2 : gv_ty mb N f = 2 := by omega
  refine br_t (by rw [t2]; rfl) (gy_next hm hN h1 hf (gy_search hr (by omega) hb (by omega) hi hR (gy_fill 16 hb (by omega) (by decide) (fun B hB hB' => gy_biSad (P := gv_pr req b 3 (gv_vu inq req r f b (gv_pa mb N f) (gv_na mb N f)) (gv_pa mb N f) (gv_na mb N f)) (by omega) hb (fun t ht => ?_) ?_))))
  · rw [gv_pr_3, gv_vu_0, gv_vu_1, gv_vu_2, gv_vu_3, hB' t (by omega), hA' t ht, hB t ht]
  have hBA : ∀ t, t < 16 → B t = gv_ft req (gv_pa mb N f) b (gv_vx r (gv_se inq req r (gv_pa mb N f) f b)) (gv_vy r (gv_se inq req r (gv_pa mb N f) f b)) t := fun t ht => (hB' t (by omega)).trans (hA' t ht)
  refine br_c (fun c => gy_cb168 (A := A) (by omega) hb K t2 hBA hB (fun z => Int32.not_lt.mpr z.1 c)) (fun c => br_c (fun d => gy_cb168 (A := A) (by omega) hb K t2 hBA hB (fun z => Int32.not_lt.mpr z.2 d)) (fun d => ?_))
  have em := gv_mo_2 (inp := inq) (R := req) (r := r) (f := f) (b := b) (past := gv_pa mb N f) (next := gv_na mb N f) t2
  rw [if_pos ⟨Int32.not_lt.mp c, Int32.not_lt.mp d⟩] at em
  refine br_t rfl (gy_cb214 (m := 1) (by decide) (by decide) (by omega) (K 1 _ _ B _ em.symm (fun t ht => ?_) gv_yv1))
  rw [gv_sp_1, gv_pr_1, gv_vu_0, gv_vu_1, hBA t ht]
theorem gy_cb9 {post : SY → Prop} (hr : r < 3) (hm : mb < 4) (hN : N < 9) (h1 : 1 ≤ N) (hf : f < N) (hb : b < 4) (hi : gv_P inq) (hR : gv_P req) (K : gv_YK post q r mb N f b yp yd inq req yo ymo yve ynz ypd yzc) :
    ∀ d i n, i + d = 4 → d < n → wY_codeBlock_9 post (nI f) (nI b) (nI (f * 4 + b)) (nI q) (nI r) (nI mb) (nI N) yp yd yx yy n (nI i) inq req yo ymo (gv_wr yve (fun c => (f * 4 + b) * 4 + c) (fun _ => 0) i) ynz ypp ypd yzc := by
  intro d
  induction d with
  | zero =>
    intro i n hi' hn
    obtain ⟨n, rfl⟩ : ∃ m, n = m + 1 := ⟨n - 1, by omega⟩
    obtain rfl : i = 4 := by omega
    exact gy_cbz hr hm hN h1 hf hb hi hR K
  | succ d ih =>
    intro i n hi' hn
    obtain ⟨n, rfl⟩ : ∃ m, n = m + 1 := ⟨n - 1, by omega⟩
    exact br_f (nI_ge (b := 4) (by omega) (by decide)) ⟨by rw [gx_4]; exact vp_in_nI (by omega) (by decide), nm_r (e' := gv_wr yve (fun c => (f * 4 + b) * 4 + c) (fun _ => 0) (i + 1)) (by rw [gx_4, nI_clamp (by omega)]; rfl) (nm_r (nI_1 i) (ih (i + 1) n (by omega) (by omega)))⟩
theorem gy_codeBlock {post : SY → Prop} {s : gv_Q} (hq1 : 1 ≤ q) (hq2 : q ≤ 64) (hr : r < 3) (hm : mb < 4) (hN : N < 9) (h1 : 1 ≤ N) (hf : f < N) (hb : b < 4) (hi : gv_P inq) (hR : gv_P s.1)
    (h : ∀ (yx yy : Int32) (pp pd zc : gv_F) (s' : gv_Q), s' = gv_blk inq q r (gv_ty mb N f) f b (gv_pa mb N f) (gv_na mb N f) s → post (nI q, nI r, nI mb, nI N, yp, yd, yx, yy, inq, s'.1, yo, s'.2.1, s'.2.2.1, s'.2.2.2, pp, pd, zc)) :
    wpY_codeBlock post (nI q, nI r, nI mb, nI N, yp, yd, yx, yy, inq, s.1, yo, s.2.1, s.2.2.1, s.2.2.2, ypp, ypd, yzc) (nI f) (nI b) := by
  obtain ⟨s1, s2, s3, s4⟩ := s
  exact nm_r gx_4 ⟨5, gy_cb9 hr hm hN h1 hf hb hi hR (gy_YK hq1 hq2 (by omega) hb h) 4 0 5 rfl (by decide)⟩
end
end
section
/-! Y: encode, isDecoded, outCount -/
theorem gv_in_t {mb n d f p : Nat} (hp : p < d) (e : gv_od mb n p = f) : gv_in mb n d f = true := by
  unfold gv_in
  rw [List.any_eq_true]
  exact ⟨p, List.mem_range.mpr hp, by simpa using e⟩
theorem gv_in_f {mb n d f : Nat} (h : ∀ p, p < d → gv_od mb n p ≠ f) : gv_in mb n d f = false := by
  cases q : gv_in mb n d f with
  | false => rfl
  | true =>
    obtain ⟨p, hp, e⟩ := gv_in_e q
    exact absurd e (h p hp)
section
variable {yq yr yb yn yp yd yx yy : Int32} {inq req yo ymo yve ynz ypp ypd yzc : Nat → Int32}
variable {q r mb N p : Nat} {G : Nat → gv_Q}
theorem gy_e105 {post : Int32 → SY → Prop} {JJ : Int32 → Int32 → Int32 → Int32 → Int32 → Int32 → Int32 → Int32 → Int32 →  gv_F → gv_F → gv_F → gv_F → gv_F → gv_F → gv_F → gv_F → gv_F →  Prop} (hq1 : 1 ≤ q) (hq2 : q ≤ 64) (hr : r < 3) (hm : mb < 4) (hN : N < 9) (hp : p < N) (hO : ∀ k, k < N → yo k = nI (gv_od mb N k)) (hi : gv_P inq)
    (hG : ∀ b, b < 4 → gv_blk inq q r (gv_ty mb N (gv_od mb N p)) (gv_od mb N p) b (gv_pa mb N (gv_od mb N p)) (gv_na mb N (gv_od mb N p)) (G (4 * p + b)) = G (4 * p + b + 1)) (hP : ∀ k, gv_P (G k).1)
    (h : ∀ (yx yy : Int32) (ypp ypd yzc : gv_F), JJ (nI (p + 1)) (nI q) (nI r) (nI mb) (nI N) yp yd yx yy inq ((G (4 * (p + 1))).1) yo ((G (4 * (p + 1))).2.1) ((G (4 * (p + 1))).2.2.1) ((G (4 * (p + 1))).2.2.2) ypp ypd yzc) :
    ∀ d b n, b + d = 4 → d < n → ∀ (yx yy : Int32) (ypp ypd yzc : gv_F), wY_encode_105 post JJ (nI p) n (nI b) (nI q) (nI r) (nI mb) (nI N) yp yd yx yy inq ((G (4 * p + b)).1) yo ((G (4 * p + b)).2.1) ((G (4 * p + b)).2.2.1) ((G (4 * p + b)).2.2.2) ypp ypd yzc := by
  have hfN := gv_od_lt mb hm N hN p hp
  intro d
  induction d with
  | zero =>
    intro b n hb hn yx yy ypp ypd yzc
    obtain ⟨n, rfl⟩ : ∃ m, n = m + 1 := ⟨n - 1, by omega⟩
    obtain rfl : b = 4 := by omega
    exact br_t (by decide) (nm_r (nI_1 p) (h yx yy ypp ypd yzc))
  | succ d ih =>
    intro b n hb hn yx yy ypp ypd yzc
    obtain ⟨n, rfl⟩ : ∃ m, n = m + 1 := ⟨n - 1, by omega⟩
    have hb4 : b < 4 := by omega
    have e := hG b hb4
    have I := ih (b + 1) n (by omega) (by omega)
    rw [show 4 * p + (b + 1) = 4 * p + b + 1 from rfl] at I
    refine br_f (nI_ge (b := 4) (by omega) (by decide)) ⟨vp_in_nI (by omega) (by decide), ?_⟩
    rw [nI_clamp (by omega), hO p hp]
    exact gy_codeBlock hq1 hq2 hr hm hN (by omega) hfN hb4 hi (hP _) (fun yx yy pp pd zc s' es => nm_r (nI_1 b) (by
      rw [e] at es
      subst es
      exact I yx yy pp pd zc))
theorem gy_e94 {post : Int32 → SY → Prop} (hq1 : 1 ≤ q) (hq2 : q ≤ 64) (hr : r < 3) (hm : mb < 4) (hN : N < 9) (hO : ∀ k, k < N → yo k = nI (gv_od mb N k)) (hi : gv_P inq)
    (hG : ∀ p b, b < 4 → gv_blk inq q r (gv_ty mb N (gv_od mb N p)) (gv_od mb N p) b (gv_pa mb N (gv_od mb N p)) (gv_na mb N (gv_od mb N p)) (G (4 * p + b)) = G (4 * p + b + 1)) (hP : ∀ k, gv_P (G k).1)
    (h : ∀ (yx yy : Int32) (ypp ypd yzc : gv_F), post (nI N) (nI q, nI r, nI mb, nI N, 1, 0, yx, yy, inq, (G (4 * N)).1, yo, (G (4 * N)).2.1, (G (4 * N)).2.2.1, (G (4 * N)).2.2.2, ypp, ypd, yzc)) :
    ∀ d p n, p + d = N → d < n → ∀ (yx yy : Int32) (ypp ypd yzc : gv_F), wY_encode_94 post n (nI p) (nI q) (nI r) (nI mb) (nI N) yp yd yx yy inq ((G (4 * p)).1) yo ((G (4 * p)).2.1) ((G (4 * p)).2.2.1) ((G (4 * p)).2.2.2) ypp ypd yzc := by
  intro d
  induction d with
  | zero =>
    intro p n hp hn yx yy ypp ypd yzc
    obtain ⟨n, rfl⟩ : ∃ m, n = m + 1 := ⟨n - 1, by omega⟩
    obtain rfl : p = N := by omega
    exact br_t (nI_le (Nat.le_refl _) (by omega)) (h yx yy ypp ypd yzc)
  | succ d ih =>
    intro p n hp hn yx yy ypp ypd yzc
    obtain ⟨n, rfl⟩ : ∃ m, n = m + 1 := ⟨n - 1, by omega⟩
    exact br_f (nI_ge (by omega) (by omega)) ⟨5, gy_e105 (G := G) hq1 hq2 hr hm hN (by omega) hO hi (hG p) hP (fun yx yy ypp ypd yzc => ih (p + 1) n (by omega) (by omega) yx yy ypp ypd yzc) 4 0 5 rfl (by decide) yx yy ypp ypd yzc⟩
theorem gy_o61 {post : Int32 → SY → Prop} {JJ : Int32 → Int32 → Int32 → gv_F → gv_F → gv_F → gv_F → gv_F → gv_F → gv_F → gv_F → gv_F →  Prop} {a : Nat} (ha : a < 8) (h : JJ (nI (a + 1)) (nI a) (nI (a + 1)) inq req (gv_wi yo (gv_O mb N) (a + 1)) ymo yve ynz ypp ypd yzc) :
    ∀ d k n, k + d = a → d < n → (∀ j, k ≤ j → j < a → gv_ty mb N j = 2) → wY_encode_61 post JJ (nI a) yq yr yb yn yp yd yx yy n (nI (k + 1)) (nI k) inq req (gv_wi yo (gv_O mb N) (k + 1)) ymo yve ynz ypp ypd yzc := by
  intro d
  induction d with
  | zero =>
    intro k n hk hn hB
    obtain ⟨n, rfl⟩ : ∃ m, n = m + 1 := ⟨n - 1, by omega⟩
    obtain rfl : k = a := by omega
    exact br_t (nI_le (Nat.le_refl _) (by omega)) (nm_r (nI_1 k) h)
  | succ d ih =>
    intro k n hk hn hB
    obtain ⟨n, rfl⟩ : ∃ m, n = m + 1 := ⟨n - 1, by omega⟩
    refine br_f (nI_ge (by omega) (by omega)) ⟨vp_in_nI (by omega) (by decide), nm_r (e' := gv_wi yo (gv_O mb N) (k + 1 + 1)) ?_ (nm_r (nI_1 (k + 1)) (nm_r (nI_1 k) (ih (k + 1) n (by omega) (by omega) (fun j h1 h2 => hB j (by omega) h2))))⟩
    rw [nI_clamp (by omega)]
    show _ = upd _ (k + 1) (nI (if gv_ty mb N k = 2 then k else gv_na mb N k))
    rw [if_pos (hB k (by omega) (by omega))]
    rfl
theorem gy_o29 {post : Int32 → SY → Prop} (hm : mb < 4) (hN : N < 9) (hN1 : 1 ≤ N) (h : ∃ n, wY_encode_94 post n 0 yq yr (nI mb) (nI N) yp yd yx yy inq req (gv_wi yo (gv_O mb N) N) ymo yve ynz ypp ypd yzc) :
    ∀ d a n, a + d = N → d < n → ∀ p, p < a → (∀ j, p < j → j < a → gv_ty mb N j = 2) → gv_ty mb N p ≠ 2 → wY_encode_29 post yq yr (nI mb) (nI N) yp yd yx yy n (nI (p + 1)) (nI p) (nI a) inq req (gv_wi yo (gv_O mb N) (p + 1)) ymo yve ynz ypp ypd yzc := by
  intro d
  induction d with
  | zero =>
    intro a n ha hn p hp hB hA
    obtain ⟨n, rfl⟩ : ∃ m, n = m + 1 := ⟨n - 1, by omega⟩
    obtain rfl : a = N := by omega
    obtain rfl : a = p + 1 := by
      rcases Nat.lt_or_ge p (a - 1) with z | z
      · exact absurd (hB (a - 1) z (by omega)) gv_ty_l
      · omega
    exact br_t (nI_le (Nat.le_refl _) (by omega)) h
  | succ d ih =>
    intro a n ha hn p hp hB hA
    obtain ⟨n, rfl⟩ : ∃ m, n = m + 1 := ⟨n - 1, by omega⟩
    refine br_f (nI_ge (by omega) (by omega)) (gy_type hm hN hN1 (by omega) ?_)
    by_cases c : gv_ty mb N a = 2
    · refine br_t (by rw [c]; rfl) (nm_r (nI_1 a) (ih (a + 1) n (by omega) (by omega) p (by omega) (fun j h1 h2 => ?_) hA))
      by_cases z : j = a
      · rw [z]; exact c
      · exact hB j h1 (by omega)
    · refine br_f (by rw [gv_ty2]; exact c) ⟨vp_in_nI (by omega) (by decide), nm_r (e' := gv_wi yo (gv_O mb N) (p + 1 + 1)) ?_ (nm_r (nI_1 (p + 1)) (nm_r (nI_1 p) ⟨9, gy_o61 (by omega) (ih (a + 1) n (by omega) (by omega) a (by omega) (fun j h1 h2 => by omega) c) (a - (p + 1)) (p + 1) 9 (by omega) (by omega) (fun j h1 h2 => hB j (by omega) h2)⟩))⟩
      rw [nI_clamp (by omega)]
      show _ = upd _ (p + 1) (nI (if gv_ty mb N p = 2 then p else gv_na mb N p))
      rw [if_neg hA, gv_na_e c hp (by omega) hB]
      rfl
theorem gy_encode {post : Int32 → SY → Prop} (hq1 : 1 ≤ q) (hq2 : q ≤ 64) (hr : r < 3) (hm : mb < 4) (hN : N < 9) (h1 : 1 ≤ N) (hi : gv_P inq) (hR : gv_P req)
    (h : ∀ (s : gv_Q) (yx yy : Int32) (ypp ypd yzc : gv_F), s = gv_run inq q r mb N (req, ymo, yve, ynz) (4 * N) → post (nI N) (nI q, nI r, nI mb, nI N, 1, 0, yx, yy, inq, s.1, gv_wi yo (gv_O mb N) N, s.2.1, s.2.2.1, s.2.2.2, ypp, ypd, yzc)) :
    wpY_encode post (nI q, nI r, nI mb, nI N, 0, yd, yx, yy, inq, req, yo, ymo, yve, ynz, ypp, ypd, yzc) :=
  br_t rfl (br_f (nI_ne0 (by omega) (by omega)) (nm_r (e' := gv_wi yo (gv_O mb N) 1) rfl ⟨N + 1, gy_o29 hm hN h1 ⟨N + 1, gy_e94 (yo := gv_wi yo (gv_O mb N) N) (G := gv_run inq q r mb N (req, ymo, yve, ynz)) hq1 hq2 hr hm hN (fun k hk => gv_wi_h hk) hi (fun p b hb => gv_run_s hb) (fun k => gv_run_p hR k) (fun yx yy ypp ypd yzc => h _ yx yy ypp ypd yzc rfl) N 0 (N + 1) (by omega) (by omega) yx yy ypp ypd yzc⟩ (N - 1) 1 (N + 1) (by omega) (by omega) 0 (by omega) (fun j a b => by omega) (fun z => by cases z)⟩))
theorem gy_is2 {post : Int32 → Prop} {d k : Nat} (hd : d ≤ 8) (hk : k < 8) (hO : ∀ p, p < d → yo p = nI (gv_od mb N p) ∧ gv_od mb N p < 8) (h1 : gv_in mb N d k = true → post 1) (h0 : gv_in mb N d k = false → post 0) :
    ∀ c i n, i + c = d → c < n → (∀ p, p < i → gv_od mb N p ≠ k) → wY_isDecoded_2 post (nI k) yq yr yb yn yp (nI d) yx yy inq req yo ymo yve ynz ypp ypd yzc n (nI i) := by
  intro c
  induction c with
  | zero =>
    intro i n hi hn H
    obtain ⟨n, rfl⟩ : ∃ m, n = m + 1 := ⟨n - 1, by omega⟩
    obtain rfl : i = d := by omega
    exact br_t (nI_le (Nat.le_refl _) (by omega)) (h0 (gv_in_f H))
  | succ c ih =>
    intro i n hi hn H
    obtain ⟨n, rfl⟩ : ∃ m, n = m + 1 := ⟨n - 1, by omega⟩
    obtain ⟨o1, o2⟩ := hO i (by omega)
    have e : yo (nI i).toNatClampNeg = nI k ↔ gv_od mb N i = k := by rw [nI_clamp (by omega), o1]; exact nI_eq (by omega) (by omega)
    refine br_f (nI_ge (by omega) (by omega)) (br_f (nI_ge (b := 8) (by omega) (by decide)) ⟨vp_in_nI (by omega) (by decide), br_c (fun z => h1 (gv_in_t (p := i) (by omega) (e.mp z))) (fun z => nm_r (nI_1 i) (ih (i + 1) n (by omega) (by omega) (fun p hp => ?_)))⟩)
    by_cases y : p = i
    · subst y; exact fun x => z (e.mpr x)
    · exact H p (by omega)
theorem gy_isDec {post : Int32 → Prop} {d k : Nat} (hd : d ≤ 8) (hk : k < 8) (hO : ∀ p, p < d → yo p = nI (gv_od mb N p) ∧ gv_od mb N p < 8) (h1 : gv_in mb N d k = true → post 1) (h0 : gv_in mb N d k = false → post 0) : wpY_isDecoded post (yq, yr, yb, yn, yp, nI d, yx, yy, inq, req, yo, ymo, yve, ynz, ypp, ypd, yzc) (nI k) :=
  ⟨d + 1, gy_is2 hd hk hO h1 h0 d 0 (d + 1) (by omega) (by omega) (fun p hp => by omega)⟩
theorem gy_oc0 {post : Int32 → Prop} {x : Int32} (hN : N < 9) (h : post x) : ∀ c k n, k + c = N → c < n → wY_outCount_6 post yq yr yb (nI N) yp yd yx yy inq req yo ymo yve ynz ypp ypd yzc n x 0 (nI k) := by
  intro c
  induction c with
  | zero =>
    intro k n hk hn
    obtain ⟨n, rfl⟩ : ∃ m, n = m + 1 := ⟨n - 1, by omega⟩
    obtain rfl : k = N := by omega
    exact br_t (nI_le (Nat.le_refl _) (by omega)) h
  | succ c ih =>
    intro k n hk hn
    obtain ⟨n, rfl⟩ : ∃ m, n = m + 1 := ⟨n - 1, by omega⟩
    exact br_f (nI_ge (by omega) (by omega)) (br_t rfl (nm_r (nI_1 k) (ih (k + 1) n (by omega) (by omega))))
theorem gy_oc1 {post : Int32 → Prop} {d o : Nat} (hN : N < 9) (hd : d ≤ 8) (hO : ∀ p, p < d → yo p = nI (gv_od mb N p) ∧ gv_od mb N p < 8) (HO : gv_OC mb N d o) (h : post (nI o)) :
    ∀ c k n, k + c = N → c < n → k ≤ o → wY_outCount_6 post yq yr yb (nI N) yp (nI d) yx yy inq req yo ymo yve ynz ypp ypd yzc n (nI k) 1 (nI k) := by
  obtain ⟨o1, o2, o3⟩ := HO
  intro c
  induction c with
  | zero =>
    intro k n hk hn hko
    obtain ⟨n, rfl⟩ : ∃ m, n = m + 1 := ⟨n - 1, by omega⟩
    obtain rfl : k = N := by omega
    obtain rfl : o = k := by omega
    exact br_t (nI_le (Nat.le_refl _) (by omega)) h
  | succ c ih =>
    intro k n hk hn hko
    obtain ⟨n, rfl⟩ : ∃ m, n = m + 1 := ⟨n - 1, by omega⟩
    refine br_f (nI_ge (by omega) (by omega)) (br_f (by decide) (gy_isDec (mb := mb) (N := N) hd (by omega) hO (fun z => br_f (by decide) (nm_r (nI_1 k) (nm_r (nI_1 k) (ih (k + 1) n (by omega) (by omega) ?_)))) (fun z => br_t rfl (nm_r (nI_1 k) ?_))))
    · rcases Nat.lt_or_ge k o with y | y
      · omega
      · obtain rfl : o = k := by omega
        have := o3 (by omega)
        rw [this] at z
        cases z
    · have e : o = k := by
        rcases Nat.lt_or_ge k o with y | y
        · have := o2 k y
          rw [this] at z
          cases z
        · omega
      subst e
      exact gy_oc0 hN h c (o + 1) n (by omega) (by omega)
theorem gy_out {post : Int32 → Prop} {d o : Nat} (hN : N < 9) (hd : d ≤ 8) (hO : ∀ p, p < d → yo p = nI (gv_od mb N p) ∧ gv_od mb N p < 8) (HO : gv_OC mb N d o) (h : post (nI o)) : wpY_outCount post (yq, yr, yb, nI N, yp, nI d, yx, yy, inq, req, yo, ymo, yve, ynz, ypp, ypd, yzc) :=
  ⟨N + 1, gy_oc1 hN hd hO HO h N 0 (N + 1) (by omega) (by omega) (by omega)⟩
end
end
section
/-! the appends -/
theorem gv_xy8 : ∀ t, t < 64 → nI t - nI t / 8 * 8 = nI (t % 8) ∧ nI t / 8 = nI (t / 8) := by decide +kernel
def gv_gr (v1 v2 v3 : Int32) (t : Nat) : Int32 := gv_cp ((v1 + v2 * nI (t % 8)) + v3 * nI (t / 8)) 0 255
def gv_tx (s : Int32) (t : Nat) : Int32 := ((gv_lc s (t + 1)).toUInt32 >>> ((24 : Int32).toUInt32 &&& Int32.toUInt32 31)).toInt32
def gv_mv (inp : gv_F) (s : Nat) (dx dy dl : Int32) (t : Nat) : Int32 := gv_cp (inp (s * 64 + gv_c7 (nI (t / 8) - dy) * 8 + gv_c7 (nI (t % 8) - dx)) + dl) 0 255
def gv_ap (inp : gv_F) (n : Nat) (v : gv_F) : Nat → gv_F := gv_wr inp (fun t => n * 64 + t) v
theorem gv_ap_s (inp : gv_F) (n : Nat) (v : gv_F) (t : Nat) : upd (gv_ap inp n v t) (n * 64 + t) (v t) = gv_ap inp n v (t + 1) := rfl
theorem gv_tx_p (s : Int32) (t : Nat) : gv_px (gv_tx s t) := by
  unfold gv_tx gv_px
  generalize gv_lc s (t + 1) = x
  have h := pk_ushr x 24 24 (by decide)
  generalize (x.toUInt32 >>> ((24 : Int32).toUInt32 &&& Int32.toUInt32 31)).toInt32 = y at h
  have hx := x.toBitVec.isLt
  have h2 : y.toBitVec.toNat < 256 := by omega
  have e : y.toInt = y.toBitVec.toInt := rfl
  rw [e, BitVec.toInt_eq_toNat_of_lt (by omega)]
  omega
theorem gv_ix8 {a y x : Nat} : (nI a + nI y * 8) + nI x = nI (a + (y * 8 + x)) := by
  rw [show (8 : Int32) = nI 8 from rfl, pk_mul, nI_add, nI_add, Nat.add_assoc]
theorem gv_64 {a : Nat} : nI a * 64 = nI (a * 64) := by rw [show (64 : Int32) = nI 64 from rfl, pk_mul]
section
variable {qu rg bf ph fc dc oc wp rp oa na : Int32} {inp rec dcd typ ord mod vcs nzs str isd vct bwd prd res cof lev : Nat → Int32}
variable {N : Nat}
theorem gx_g31 {post : Int32 → SX → Prop} {JJ : Int32 → gv_F → gv_F → gv_F → gv_F → gv_F → gv_F → gv_F → gv_F → gv_F → gv_F → gv_F → gv_F → gv_F → gv_F → gv_F → gv_F →  Prop} {v1 v2 v3 : Int32} {i : Nat} (hN : N < 8) (hi : i < 8) (h : JJ (nI (i + 1)) (gv_ap inp N (gv_gr v1 v2 v3) ((i + 1) * 8)) rec dcd typ ord mod vcs nzs str isd vct bwd prd res cof lev) :
    ∀ d j n, j + d = 8 → d < n → wX_appendGradient_31 post JJ v1 v2 v3 (nI (N * 64)) (nI i) qu rg bf ph fc dc oc wp rp oa na n (nI j) (gv_ap inp N (gv_gr v1 v2 v3) (i * 8 + j)) rec dcd typ ord mod vcs nzs str isd vct bwd prd res cof lev := by
  intro d
  induction d with
  | zero =>
    intro j n hj hn
    obtain ⟨n, rfl⟩ : ∃ m, n = m + 1 := ⟨n - 1, by omega⟩
    obtain rfl : j = 8 := by omega
    rw [Nat.succ_mul] at h
    exact br_t (by decide) (nm_r (nI_1 i) h)
  | succ d ih =>
    intro j n hj hn
    obtain ⟨n, rfl⟩ : ∃ m, n = m + 1 := ⟨n - 1, by omega⟩
    refine br_f (nI_ge (b := 8) (by omega) (by decide)) (gx_clamp ⟨?_, nm_r (e' := gv_ap inp N (gv_gr v1 v2 v3) (i * 8 + (j + 1))) ?_ (nm_r (nI_1 j) (ih (j + 1) n (by omega) (by omega)))⟩)
    · rw [gv_ix8]; exact vp_in_nI (by omega) (by decide)
    · rw [gv_ix8, nI_clamp (by omega)]
      show _ = upd (gv_ap inp N (gv_gr v1 v2 v3) (i * 8 + j)) (N * 64 + (i * 8 + j)) (gv_gr v1 v2 v3 (i * 8 + j))
      unfold gv_gr
      rw [show (i * 8 + j) % 8 = j by omega, show (i * 8 + j) / 8 = i by omega]
theorem gx_g21 {post : Int32 → SX → Prop} {v1 v2 v3 : Int32} (hN : N < 8) (h : post (nI N) (qu, rg, bf, ph, nI (N + 1), dc, oc, wp, rp, oa, na, gv_ap inp N (gv_gr v1 v2 v3) 64, rec, dcd, typ, ord, mod, vcs, nzs, str, isd, vct, bwd, prd, res, cof, lev)) :
    ∀ d i n, i + d = 8 → d < n → wX_appendGradient_21 post v1 v2 v3 (nI (N * 64)) qu rg bf ph (nI N) dc oc wp rp oa na n (nI i) (gv_ap inp N (gv_gr v1 v2 v3) (i * 8)) rec dcd typ ord mod vcs nzs str isd vct bwd prd res cof lev := by
  intro d
  induction d with
  | zero =>
    intro i n hi hn
    obtain ⟨n, rfl⟩ : ∃ m, n = m + 1 := ⟨n - 1, by omega⟩
    obtain rfl : i = 8 := by omega
    exact br_t (by decide) (nm_r (nI_1 N) h)
  | succ d ih =>
    intro i n hi hn
    obtain ⟨n, rfl⟩ : ∃ m, n = m + 1 := ⟨n - 1, by omega⟩
    exact br_f (nI_ge (b := 8) (by omega) (by decide)) ⟨9, gx_g31 hN (by omega) (ih (i + 1) n (by omega) (by omega)) 8 0 9 rfl (by decide)⟩
theorem gx_grad {post : Int32 → SX → Prop} {v1 v2 v3 : Int32} (hN : N < 9) (h1 : ph = 0 → N < 8 → post (nI N) (qu, rg, bf, ph, nI (N + 1), dc, oc, wp, rp, oa, na, gv_ap inp N (gv_gr v1 v2 v3) 64, rec, dcd, typ, ord, mod, vcs, nzs, str, isd, vct, bwd, prd, res, cof, lev)) (h0 : (ph ≠ 0 ∨ 8 ≤ N) → post (-1) (qu, rg, bf, ph, nI N, dc, oc, wp, rp, oa, na, inp, rec, dcd, typ, ord, mod, vcs, nzs, str, isd, vct, bwd, prd, res, cof, lev)) : wpX_appendGradient post (qu, rg, bf, ph, nI N, dc, oc, wp, rp, oa, na, inp, rec, dcd, typ, ord, mod, vcs, nzs, str, isd, vct, bwd, prd, res, cof, lev) v1 v2 v3 := by
  unfold wpX_appendGradient
  dsimp only
  exact gx_can (by omega) (fun a b => br_f (by decide) (nm_r gv_64 ⟨9, gx_g21 b (h1 a b) 8 0 9 rfl (by decide)⟩)) (fun a => br_t rfl (h0 a))
theorem gx_t22 {post : Int32 → SX → Prop} {sd : Int32} (hN : N < 8) (h : post (nI N) (qu, rg, bf, ph, nI (N + 1), dc, oc, wp, rp, oa, na, gv_ap inp N (gv_tx sd) 64, rec, dcd, typ, ord, mod, vcs, nzs, str, isd, vct, bwd, prd, res, cof, lev)) :
    ∀ d t n, t + d = 64 → d < n → wX_appendTexture_22 post (nI (N * 64)) qu rg bf ph (nI N) dc oc wp rp oa na n (gv_lc sd t) (nI t) (gv_ap inp N (gv_tx sd) t) rec dcd typ ord mod vcs nzs str isd vct bwd prd res cof lev := by
  intro d
  induction d with
  | zero =>
    intro t n ht hn
    obtain ⟨n, rfl⟩ : ∃ m, n = m + 1 := ⟨n - 1, by omega⟩
    obtain rfl : t = 64 := by omega
    exact br_t (by decide) (nm_r (nI_1 N) h)
  | succ d ih =>
    intro t n ht hn
    obtain ⟨n, rfl⟩ : ∃ m, n = m + 1 := ⟨n - 1, by omega⟩
    refine br_f (nI_ge (b := 64) (by omega) (by decide)) (nm_r (e' := gv_lc sd (t + 1)) rfl ⟨?_, nm_r (e' := gv_ap inp N (gv_tx sd) (t + 1)) ?_ (nm_r (nI_1 t) (ih (t + 1) n (by omega) (by omega)))⟩)
    · rw [nI_add]; exact vp_in_nI (by omega) (by decide)
    · rw [nI_add, nI_clamp (by omega)]
      rfl
theorem gx_text {post : Int32 → SX → Prop} {sd : Int32} (hN : N < 9) (h1 : ph = 0 → N < 8 → post (nI N) (qu, rg, bf, ph, nI (N + 1), dc, oc, wp, rp, oa, na, gv_ap inp N (gv_tx sd) 64, rec, dcd, typ, ord, mod, vcs, nzs, str, isd, vct, bwd, prd, res, cof, lev)) (h0 : (ph ≠ 0 ∨ 8 ≤ N) → post (-1) (qu, rg, bf, ph, nI N, dc, oc, wp, rp, oa, na, inp, rec, dcd, typ, ord, mod, vcs, nzs, str, isd, vct, bwd, prd, res, cof, lev)) : wpX_appendTexture post (qu, rg, bf, ph, nI N, dc, oc, wp, rp, oa, na, inp, rec, dcd, typ, ord, mod, vcs, nzs, str, isd, vct, bwd, prd, res, cof, lev) sd := by
  unfold wpX_appendTexture
  dsimp only
  exact gx_can (by omega) (fun a b => br_f (by decide) (nm_r gv_64 ⟨65, gx_t22 b (h1 a b) 64 0 65 rfl (by decide)⟩)) (fun a => br_t rfl (h0 a))
theorem gx_m60 {post : Int32 → SX → Prop} {JJ : Int32 → gv_F → gv_F → gv_F → gv_F → gv_F → gv_F → gv_F → gv_F → gv_F → gv_F → gv_F → gv_F → gv_F → gv_F → gv_F → gv_F →  Prop} {dx dy dl : Int32} {s i : Nat} (hN : N < 8) (hs : s < N) (hi : i < 8) (h : JJ (nI (i + 1)) (gv_ap inp N (gv_mv inp s dx dy dl) ((i + 1) * 8)) rec dcd typ ord mod vcs nzs str isd vct bwd prd res cof lev) :
    ∀ d j n, j + d = 8 → d < n → wX_appendMoved_60 post JJ dx dy dl (nI (N * 64)) (nI (s * 64)) (nI i) (nI (gv_c7 (nI i - dy))) qu rg bf ph fc dc oc wp rp oa na n (nI j) (gv_ap inp N (gv_mv inp s dx dy dl) (i * 8 + j)) rec dcd typ ord mod vcs nzs str isd vct bwd prd res cof lev := by
  intro d
  induction d with
  | zero =>
    intro j n hj hn
    obtain ⟨n, rfl⟩ : ∃ m, n = m + 1 := ⟨n - 1, by omega⟩
    obtain rfl : j = 8 := by omega
    rw [Nat.succ_mul] at h
    exact br_t (by decide) (nm_r (nI_1 i) h)
  | succ d ih =>
    intro j n hj hn
    obtain ⟨n, rfl⟩ : ∃ m, n = m + 1 := ⟨n - 1, by omega⟩
    have b1 := (gv_c7_e (nI i - dy)).2
    have b2 := (gv_c7_e (nI j - dx)).2
    refine br_f (nI_ge (b := 8) (by omega) (by decide)) (gx_c7 rfl ⟨?_, nm_r (e' := inp (s * 64 + gv_c7 (nI i - dy) * 8 + gv_c7 (nI j - dx)) + dl) ?_ (gx_clamp ⟨?_, nm_r (e' := gv_ap inp N (gv_mv inp s dx dy dl) (i * 8 + (j + 1))) ?_ (nm_r (nI_1 j) (ih (j + 1) n (by omega) (by omega)))⟩)⟩)
    · rw [gv_ix8]; exact vp_in_nI (by omega) (by decide)
    · rw [gv_ix8, nI_clamp (by omega), ← Nat.add_assoc]
      unfold gv_ap
      rw [gv_wr_m _ (fun k _ => by omega)]
    · rw [gv_ix8]; exact vp_in_nI (by omega) (by decide)
    · rw [gv_ix8, nI_clamp (by omega)]
      show _ = upd (gv_ap inp N (gv_mv inp s dx dy dl) (i * 8 + j)) (N * 64 + (i * 8 + j)) (gv_cp (inp (s * 64 + gv_c7 (nI ((i * 8 + j) / 8) - dy) * 8 + gv_c7 (nI ((i * 8 + j) % 8) - dx)) + dl) 0 255)
      rw [show (i * 8 + j) % 8 = j by omega, show (i * 8 + j) / 8 = i by omega]
theorem gx_m38 {post : Int32 → SX → Prop} {dx dy dl : Int32} {s : Nat} (hN : N < 8) (hs : s < N) (h : post (nI N) (qu, rg, bf, ph, nI (N + 1), dc, oc, wp, rp, oa, na, gv_ap inp N (gv_mv inp s dx dy dl) 64, rec, dcd, typ, ord, mod, vcs, nzs, str, isd, vct, bwd, prd, res, cof, lev)) :
    ∀ d i n, i + d = 8 → d < n → wX_appendMoved_38 post dx dy dl (nI (N * 64)) (nI (s * 64)) qu rg bf ph (nI N) dc oc wp rp oa na n (nI i) (gv_ap inp N (gv_mv inp s dx dy dl) (i * 8)) rec dcd typ ord mod vcs nzs str isd vct bwd prd res cof lev := by
  intro d
  induction d with
  | zero =>
    intro i n hi hn
    obtain ⟨n, rfl⟩ : ∃ m, n = m + 1 := ⟨n - 1, by omega⟩
    obtain rfl : i = 8 := by omega
    exact br_t (by decide) (nm_r (nI_1 N) h)
  | succ d ih =>
    intro i n hi hn
    obtain ⟨n, rfl⟩ : ∃ m, n = m + 1 := ⟨n - 1, by omega⟩
    exact br_f (nI_ge (b := 8) (by omega) (by decide)) (gx_c7 rfl ⟨9, gx_m60 hN hs (by omega) (ih (i + 1) n (by omega) (by omega)) 8 0 9 rfl (by decide)⟩)
theorem gx_move {post : Int32 → SX → Prop} {sr dx dy dl : Int32} (hN : N < 9) (h1 : ∀ s, ph = 0 → N < 8 → s < N → sr = nI s → post (nI N) (qu, rg, bf, ph, nI (N + 1), dc, oc, wp, rp, oa, na, gv_ap inp N (gv_mv inp s dx dy dl) 64, rec, dcd, typ, ord, mod, vcs, nzs, str, isd, vct, bwd, prd, res, cof, lev)) (h0 : (ph ≠ 0 ∨ 8 ≤ N ∨ sr < 0 ∨ nI N ≤ sr) → post (-1) (qu, rg, bf, ph, nI N, dc, oc, wp, rp, oa, na, inp, rec, dcd, typ, ord, mod, vcs, nzs, str, isd, vct, bwd, prd, res, cof, lev)) : wpX_appendMoved post (qu, rg, bf, ph, nI N, dc, oc, wp, rp, oa, na, inp, rec, dcd, typ, ord, mod, vcs, nzs, str, isd, vct, bwd, prd, res, cof, lev) sr dx dy dl := by
  unfold wpX_appendMoved
  dsimp only
  exact gx_can (by omega) (fun a b => br_f (by decide) (gx_below (by omega) (fun s hs es => br_f (by decide) (nm_r gv_64 (nm_r (e' := nI (s * 64)) (by rw [es, gv_64]) ⟨9, gx_m38 b hs (h1 s a b hs es) 8 0 9 rfl (by decide)⟩))) (fun z => br_t rfl (h0 (Or.inr (Or.inr z)))))) (fun a => br_t rfl (h0 (a.elim Or.inl (fun z => Or.inr (Or.inl z)))))
end
section
variable {yq yr yb yn yp yd yx yy : Int32} {inq req yo ymo yve ynz ypp ypd yzc : Nat → Int32}
variable {N : Nat}
theorem gv_e64 {n t : Nat} : nI n * 64 + nI t = nI (n * 64 + t) := by rw [gv_64, nI_add]
theorem gy_g12 {post : Int32 → SY → Prop} {v1 v2 v3 : Int32} (hN : N < 8) (h : post (nI N) (yq, yr, yb, nI (N + 1), yp, yd, yx, yy, gv_ap inq N (gv_gr v1 v2 v3) 64, req, yo, ymo, yve, ynz, ypp, ypd, yzc)) :
    ∀ d t n, t + d = 64 → d < n → wY_appendGradient_12 post v1 v2 v3 yq yr yb (nI N) yp yd yx yy n (nI t) (gv_ap inq N (gv_gr v1 v2 v3) t) req yo ymo yve ynz ypp ypd yzc := by
  intro d
  induction d with
  | zero =>
    intro t n ht hn
    obtain ⟨n, rfl⟩ : ∃ m, n = m + 1 := ⟨n - 1, by omega⟩
    obtain rfl : t = 64 := by omega
    refine br_t (by decide) (nm_r (nI_1 N) ?_)
    rw [nI_pred]
    exact h
  | succ d ih =>
    intro t n ht hn
    obtain ⟨n, rfl⟩ : ∃ m, n = m + 1 := ⟨n - 1, by omega⟩
    obtain ⟨e1, e2⟩ := gv_xy8 t (by omega)
    refine br_f (nI_ge (b := 64) (by omega) (by decide)) ⟨by decide, by decide, gy_c255 ⟨?_, nm_r (e' := gv_ap inq N (gv_gr v1 v2 v3) (t + 1)) ?_ (nm_r (nI_1 t) (ih (t + 1) n (by omega) (by omega)))⟩⟩
    · rw [gv_e64]; exact vp_in_nI (by omega) (by decide)
    · rw [gv_e64, nI_clamp (by omega), e1, e2]
      rfl
theorem gy_grad {post : Int32 → SY → Prop} {v1 v2 v3 : Int32} (hN : N < 9) (h1 : yp = 0 → N < 8 → post (nI N) (yq, yr, yb, nI (N + 1), yp, yd, yx, yy, gv_ap inq N (gv_gr v1 v2 v3) 64, req, yo, ymo, yve, ynz, ypp, ypd, yzc)) (h0 : (yp ≠ 0 ∨ 8 ≤ N) → post (-1) (yq, yr, yb, nI N, yp, yd, yx, yy, inq, req, yo, ymo, yve, ynz, ypp, ypd, yzc)) : wpY_appendGradient post (yq, yr, yb, nI N, yp, yd, yx, yy, inq, req, yo, ymo, yve, ynz, ypp, ypd, yzc) v1 v2 v3 := by
  unfold wpY_appendGradient
  dsimp only
  exact gy_can (by omega) (fun a b => br_f (by decide) ⟨65, gy_g12 b (h1 a b) 64 0 65 rfl (by decide)⟩) (fun a => br_t rfl (h0 a))
theorem gy_t13 {post : Int32 → SY → Prop} {sd : Int32} (hN : N < 8) (h : post (nI N) (yq, yr, yb, nI (N + 1), yp, yd, yx, yy, gv_ap inq N (gv_tx sd) 64, req, yo, ymo, yve, ynz, ypp, ypd, yzc)) :
    ∀ d t n, t + d = 64 → d < n → wY_appendTexture_13 post yq yr yb (nI N) yp yd yx yy n (gv_lc sd t) (nI t) (gv_ap inq N (gv_tx sd) t) req yo ymo yve ynz ypp ypd yzc := by
  intro d
  induction d with
  | zero =>
    intro t n ht hn
    obtain ⟨n, rfl⟩ : ∃ m, n = m + 1 := ⟨n - 1, by omega⟩
    obtain rfl : t = 64 := by omega
    refine br_t (by decide) (nm_r (nI_1 N) ?_)
    rw [nI_pred]
    exact h
  | succ d ih =>
    intro t n ht hn
    obtain ⟨n, rfl⟩ : ∃ m, n = m + 1 := ⟨n - 1, by omega⟩
    refine br_f (nI_ge (b := 64) (by omega) (by decide)) (nm_r (e' := gv_lc sd (t + 1)) rfl ⟨?_, nm_r (e' := gv_ap inq N (gv_tx sd) (t + 1)) ?_ (nm_r (nI_1 t) (ih (t + 1) n (by omega) (by omega)))⟩)
    · rw [gv_e64]; exact vp_in_nI (by omega) (by decide)
    · rw [gv_e64, nI_clamp (by omega)]
      rfl
theorem gy_text {post : Int32 → SY → Prop} {sd : Int32} (hN : N < 9) (h1 : yp = 0 → N < 8 → post (nI N) (yq, yr, yb, nI (N + 1), yp, yd, yx, yy, gv_ap inq N (gv_tx sd) 64, req, yo, ymo, yve, ynz, ypp, ypd, yzc)) (h0 : (yp ≠ 0 ∨ 8 ≤ N) → post (-1) (yq, yr, yb, nI N, yp, yd, yx, yy, inq, req, yo, ymo, yve, ynz, ypp, ypd, yzc)) : wpY_appendTexture post (yq, yr, yb, nI N, yp, yd, yx, yy, inq, req, yo, ymo, yve, ynz, ypp, ypd, yzc) sd := by
  unfold wpY_appendTexture
  dsimp only
  exact gy_can (by omega) (fun a b => br_f (by decide) ⟨65, gy_t13 b (h1 a b) 64 0 65 rfl (by decide)⟩) (fun a => br_t rfl (h0 a))
theorem gy_m24 {post : Int32 → SY → Prop} {dx dy dl : Int32} {s : Nat} (hN : N < 8) (hs : s < N) (h : post (nI N) (yq, yr, yb, nI (N + 1), yp, yd, yx, yy, gv_ap inq N (gv_mv inq s dx dy dl) 64, req, yo, ymo, yve, ynz, ypp, ypd, yzc)) :
    ∀ d t n, t + d = 64 → d < n → wY_appendMoved_24 post (nI s) dx dy dl yq yr yb (nI N) yp yd yx yy n (nI t) (gv_ap inq N (gv_mv inq s dx dy dl) t) req yo ymo yve ynz ypp ypd yzc := by
  intro d
  induction d with
  | zero =>
    intro t n ht hn
    obtain ⟨n, rfl⟩ : ∃ m, n = m + 1 := ⟨n - 1, by omega⟩
    obtain rfl : t = 64 := by omega
    refine br_t (by decide) (nm_r (nI_1 N) ?_)
    rw [nI_pred]
    exact h
  | succ d ih =>
    intro t n ht hn
    obtain ⟨n, rfl⟩ : ∃ m, n = m + 1 := ⟨n - 1, by omega⟩
    obtain ⟨e1, e2⟩ := gv_xy8 t (by omega)
    have b1 := (gv_c7_e (nI (t / 8) - dy)).2
    have b2 := (gv_c7_e (nI (t % 8) - dx)).2
    refine br_f (nI_ge (b := 64) (by omega) (by decide)) ⟨by decide, nm_r e1 ⟨by decide, nm_r e2 (gy_cl rfl (gy_cl rfl ⟨?_, gy_c255 ⟨?_, nm_r (e' := gv_ap inq N (gv_mv inq s dx dy dl) (t + 1)) ?_ (nm_r (nI_1 t) (ih (t + 1) n (by omega) (by omega)))⟩⟩))⟩⟩
    · rw [gx_ld]; exact vp_in_nI (by omega) (by decide)
    · rw [gv_e64]; exact vp_in_nI (by omega) (by decide)
    · rw [gv_e64, gx_ld, nI_clamp (by omega), nI_clamp (by omega), show gv_ap inq N (gv_mv inq s dx dy dl) t (s * 64 + gv_c7 (nI (t / 8) - dy) * 8 + gv_c7 (nI (t % 8) - dx)) = inq (s * 64 + gv_c7 (nI (t / 8) - dy) * 8 + gv_c7 (nI (t % 8) - dx)) from gv_wr_m _ (fun k _ => by omega)]
      rfl
theorem gy_move {post : Int32 → SY → Prop} {sr dx dy dl : Int32} (hN : N < 9) (h1 : ∀ s, yp = 0 → N < 8 → s < N → sr = nI s → post (nI N) (yq, yr, yb, nI (N + 1), yp, yd, yx, yy, gv_ap inq N (gv_mv inq s dx dy dl) 64, req, yo, ymo, yve, ynz, ypp, ypd, yzc)) (h0 : (yp ≠ 0 ∨ 8 ≤ N ∨ sr < 0 ∨ nI N ≤ sr) → post (-1) (yq, yr, yb, nI N, yp, yd, yx, yy, inq, req, yo, ymo, yve, ynz, ypp, ypd, yzc)) : wpY_appendMoved post (yq, yr, yb, nI N, yp, yd, yx, yy, inq, req, yo, ymo, yve, ynz, ypp, ypd, yzc) sr dx dy dl := by
  unfold wpY_appendMoved
  dsimp only
  refine gy_can (by omega) (fun a b => br_f (by decide) (br_c (fun c => h0 (Or.inr (Or.inr (Or.inl c)))) (fun c => br_c (fun e => ?_) (fun e => h0 (Or.inr (Or.inr (Or.inr (Int32.not_lt.mp e)))))))) (fun a => br_t rfl (h0 (a.elim Or.inl (fun z => Or.inr (Or.inl z)))))
  obtain ⟨s, hs, rfl⟩ := nI_of c
  have hsN : s < N := (nI_ltI hs (by omega)).mp e
  exact ⟨65, gy_m24 b hsN (h1 s a b hsN rfl) 64 0 65 rfl (by decide)⟩
end
end
section
/-! what is owed: the beginning, reset, appends, setPixel, encode, decodeNext -/
theorem gv_rel {k q r mb n d o : Nat} {ph wp rp oa na yx yy : Int32} {inp rec dcd typ ord mod vcs nzs str isd vct bwd prd res cof lev ypp ypd yzc : gv_F} (hL : gv_L q r mb n inp rec) (hc : (ph = 0 ∧ d = 0 ∧ o = 0) ∨ (ph = 1 ∧ gv_C q mb n d o rec dcd typ ord str isd rp oa na)) : i_Rel k (nI q, nI r, nI mb, ph, nI n, nI d, nI o, wp, rp, oa, na, inp, rec, dcd, typ, ord, mod, vcs, nzs, str, isd, vct, bwd, prd, res, cof, lev) (nI q, nI r, nI mb, nI n, ph, nI d, yx, yy, inp, rec, ord, mod, vcs, nzs, ypp, ypd, yzc) :=
  ⟨q, r, mb, n, d, o, ph, wp, rp, oa, na, yx, yy, inp, rec, dcd, typ, ord, mod, vcs, nzs, str, isd, vct, bwd, prd, res, cof, lev, ypp, ypd, yzc, rfl, rfl, hL, hc⟩
theorem i_up {k : Nat} {u : SX} {v : SY} (h : i_Rel k u v) : i_Rel (k + 5) u v := h
theorem gv_cpN {v : Int32} (lo hi : Nat) (h : lo ≤ hi) (hh : hi < 2 ^ 31) : ∃ j, lo ≤ j ∧ j ≤ hi ∧ gv_cp v (nI lo) (nI hi) = nI j := by
  have a := gv_cp_r (v := v) (lo := nI lo) (hi := nI hi) (by rw [nI_toInt hh, nI_toInt (by omega)]; omega)
  rw [nI_toInt hh, nI_toInt (by omega)] at a
  obtain ⟨e1, e2, e3⟩ := gv_nI_of (x := gv_cp v (nI lo) (nI hi)) (by omega)
  exact ⟨_, by omega, by omega, e1⟩
theorem i_vc0 (k0 : Int32) (k1 : Int32) (k2 : Int32) : wpX_init (fun u => wpY_init (fun v => i_Rel 3 u v) k0 k1 k2) k0 k1 k2 := by
  obtain ⟨q, q1, q2, eq⟩ := gv_cpN (v := k0) 1 64 (by decide) (by decide)
  obtain ⟨r, r1, r2, er⟩ := gv_cpN (v := k1) 0 2 (by decide) (by decide)
  obtain ⟨mb, m1, m2, em⟩ := gv_cpN (v := k2) 0 3 (by decide) (by decide)
  unfold wpX_init wpY_init
  refine gx_clamp (gx_clamp (gx_clamp (gy_clamp (gy_clamp (gy_clamp ?_)))))
  show i_Rel 3 (gv_cp k0 (nI 1) (nI 64), gv_cp k1 (nI 0) (nI 2), gv_cp k2 (nI 0) (nI 3), 0, 0, 0, 0, 0, 0, 0, 0, _, _, _, _, _, _, _, _, _, _, _, _, _, _, _, _) (gv_cp k0 (nI 1) (nI 64), gv_cp k1 (nI 0) (nI 2), gv_cp k2 (nI 0) (nI 3), 0, 0, 0, 0, 0, _, _, _, _, _, _, _, _, _)
  rw [eq, er, em]
  exact gv_rel (n := 0) (d := 0) (o := 0) ⟨⟨q1, q2⟩, by omega, by omega, by omega, gv_P0, gv_P0⟩ (Or.inl ⟨rfl, rfl, rfl⟩)
theorem i_vc_reset {k : Nat} {u : SX} {v : SY} (I : i_Rel k u v) (hk : k + 5 ≤ 2563) : wpX_reset (fun u' => wpY_reset (fun v' => i_Rel (k + 5) u' v') v) u := by
  obtain ⟨q, r, mb, n, d, o, ph, wp, rp, oa, na, yx, yy, inp, rec, dcd, typ, ord, mod, vcs, nzs, str, isd, vct, bwd, prd, res, cof, lev, ypp, ypd, yzc, rfl, rfl, hL, hc⟩ := I
  obtain ⟨hq, hr, hm, hn, hi, hR⟩ := hL
  show i_Rel (k + 5) (nI q, nI r, nI mb, 0, nI 0, nI 0, nI 0, wp, rp, oa, na, inp, rec, dcd, typ, ord, mod, vcs, nzs, str, isd, vct, bwd, prd, res, cof, lev) (nI q, nI r, nI mb, nI 0, 0, nI 0, yx, yy, inp, rec, ord, mod, vcs, nzs, ypp, ypd, yzc)
  exact gv_rel ⟨hq, hr, hm, by omega, hi, hR⟩ (Or.inl ⟨rfl, rfl, rfl⟩)
theorem gv_01 {ph : Int32} {A B : Prop} (h : (ph = 0 ∧ A) ∨ (ph = 1 ∧ B)) (h0 : ph = 0) : A := by
  rcases h with ⟨-, a⟩ | ⟨b, -⟩
  · exact a
  · rw [h0] at b; exact absurd b (by decide)
theorem gv_app {k q r mb n d o : Nat} {ph wp rp oa na yx yy : Int32} {inp rec dcd typ ord mod vcs nzs str isd vct bwd prd res cof lev ypp ypd yzc v : gv_F} (hL : gv_L q r mb n inp rec) (hc : (ph = 0 ∧ d = 0 ∧ o = 0) ∨ (ph = 1 ∧ gv_C q mb n d o rec dcd typ ord str isd rp oa na))
    (h0 : ph = 0) (h8 : n < 8) (hv : ∀ t, t < 64 → gv_px (v t)) : i_Rel k (nI q, nI r, nI mb, ph, nI (n + 1), nI d, nI o, wp, rp, oa, na, gv_ap inp n v 64, rec, dcd, typ, ord, mod, vcs, nzs, str, isd, vct, bwd, prd, res, cof, lev) (nI q, nI r, nI mb, nI (n + 1), ph, nI d, yx, yy, gv_ap inp n v 64, rec, ord, mod, vcs, nzs, ypp, ypd, yzc) := by
  obtain ⟨hq, hr, hm, hn, hi, hR⟩ := hL
  exact gv_rel ⟨hq, hr, hm, by omega, gv_P_w hi 64 hv, hR⟩ (Or.inl ⟨h0, gv_01 hc h0⟩)
theorem i_vc_appendGradient {k : Nat} {u : SX} {v : SY} (I : i_Rel k u v) (hk : k + 5 ≤ 2563) (v1 : Int32) (v2 : Int32) (v3 : Int32) : wpX_appendGradient (fun r u' => wpY_appendGradient (fun r' v' => r' = r ∧ i_Rel (k + 5) u' v') v v1 v2 v3) u v1 v2 v3 := by
  obtain ⟨q, r, mb, n, d, o, ph, wp, rp, oa, na, yx, yy, inp, rec, dcd, typ, ord, mod, vcs, nzs, str, isd, vct, bwd, prd, res, cof, lev, ypp, ypd, yzc, rfl, rfl, hL, hc⟩ := I
  have I' : i_Rel (k + 5) (nI q, nI r, nI mb, ph, nI n, nI d, nI o, wp, rp, oa, na, inp, rec, dcd, typ, ord, mod, vcs, nzs, str, isd, vct, bwd, prd, res, cof, lev) (nI q, nI r, nI mb, nI n, ph, nI d, yx, yy, inp, rec, ord, mod, vcs, nzs, ypp, ypd, yzc) := gv_rel hL hc
  have hn := hL.2.2.2.1
  refine gx_grad hn (fun a b => gy_grad hn (fun _ _ => ⟨rfl, gv_app hL hc a b (fun t _ => gv_c255 _)⟩) (fun z => ?_)) (fun z => gy_grad hn (fun a b => ?_) (fun _ => ⟨rfl, I'⟩))
  · rcases z with z | z
    · exact absurd a z
    · omega
  · rcases z with z | z
    · exact absurd a z
    · omega
theorem i_vc_appendTexture {k : Nat} {u : SX} {v : SY} (I : i_Rel k u v) (hk : k + 5 ≤ 2563) (v1 : Int32) : wpX_appendTexture (fun r u' => wpY_appendTexture (fun r' v' => r' = r ∧ i_Rel (k + 5) u' v') v v1) u v1 := by
  obtain ⟨q, r, mb, n, d, o, ph, wp, rp, oa, na, yx, yy, inp, rec, dcd, typ, ord, mod, vcs, nzs, str, isd, vct, bwd, prd, res, cof, lev, ypp, ypd, yzc, rfl, rfl, hL, hc⟩ := I
  have I' : i_Rel (k + 5) (nI q, nI r, nI mb, ph, nI n, nI d, nI o, wp, rp, oa, na, inp, rec, dcd, typ, ord, mod, vcs, nzs, str, isd, vct, bwd, prd, res, cof, lev) (nI q, nI r, nI mb, nI n, ph, nI d, yx, yy, inp, rec, ord, mod, vcs, nzs, ypp, ypd, yzc) := gv_rel hL hc
  have hn := hL.2.2.2.1
  refine gx_text hn (fun a b => gy_text hn (fun _ _ => ⟨rfl, gv_app hL hc a b (fun t _ => gv_tx_p _ _)⟩) (fun z => ?_)) (fun z => gy_text hn (fun a b => ?_) (fun _ => ⟨rfl, I'⟩))
  · rcases z with z | z
    · exact absurd a z
    · omega
  · rcases z with z | z
    · exact absurd a z
    · omega
theorem i_vc_appendMoved {k : Nat} {u : SX} {v : SY} (I : i_Rel k u v) (hk : k + 5 ≤ 2563) (v1 : Int32) (v2 : Int32) (v3 : Int32) (v4 : Int32) : wpX_appendMoved (fun r u' => wpY_appendMoved (fun r' v' => r' = r ∧ i_Rel (k + 5) u' v') v v1 v2 v3 v4) u v1 v2 v3 v4 := by
  obtain ⟨q, r, mb, n, d, o, ph, wp, rp, oa, na, yx, yy, inp, rec, dcd, typ, ord, mod, vcs, nzs, str, isd, vct, bwd, prd, res, cof, lev, ypp, ypd, yzc, rfl, rfl, hL, hc⟩ := I
  have I' : i_Rel (k + 5) (nI q, nI r, nI mb, ph, nI n, nI d, nI o, wp, rp, oa, na, inp, rec, dcd, typ, ord, mod, vcs, nzs, str, isd, vct, bwd, prd, res, cof, lev) (nI q, nI r, nI mb, nI n, ph, nI d, yx, yy, inp, rec, ord, mod, vcs, nzs, ypp, ypd, yzc) := gv_rel hL hc
  have hn := hL.2.2.2.1
  have X : ∀ s, n < 8 → s < n → v1 = nI s → (8 ≤ n ∨ v1 < 0 ∨ nI n ≤ v1) → False := by
    intro s h8 hs e z
    rcases z with z | z | z
    · omega
    · rw [e] at z; exact nI_pos (by omega) z
    · rw [e] at z; exact nI_ge hs (by omega) z
  refine gx_move hn (fun s a b hs es => gy_move hn (fun s' _ _ hs' es' => ?_) (fun z => ?_)) (fun z => gy_move hn (fun s a b hs es => ?_) (fun _ => ⟨rfl, I'⟩))
  · have e : s = s' := (nI_eq (by omega) (by omega)).mp (es.symm.trans es')
    subst e
    exact ⟨rfl, gv_app hL hc a b (fun t _ => gv_c255 _)⟩
  · rcases z with z | z
    · exact absurd a z
    · exact absurd z (X s b hs es)
  · rcases z with z | z
    · exact absurd a z
    · exact absurd z (X s b hs es)
theorem gx_bt {post : Int32 → Prop} {j c : Nat} (hj : j < c) (hc : c < 2 ^ 31) (h : post 1) : wpX_isBelow post (nI j) (nI c) := br_f (nI_pos (by omega)) (br_f (nI_ge hj hc) h)
theorem gx_bf {post : Int32 → Prop} {v : Int32} {c : Nat} (z : v < 0 ∨ nI c ≤ v) (h : post 0) : wpX_isBelow post v (nI c) := by
  refine br_c (fun _ => h) (fun a => br_c (fun _ => h) (fun b => ?_))
  rcases z with z | z
  · exact absurd z a
  · exact absurd z b
theorem gv_78 {x : Int32} (h : nI 8 ≤ x) : ¬ x < 0 ∧ 7 < x := by
  rw [gv_le, show (nI 8).toInt = 8 from by decide] at h
  rw [gv_lt, gv_lt, gv_i0, gv_i7]
  omega
theorem gv_n0 {x : Int32} {c : Nat} (hc : c < 2 ^ 31) (h : nI c ≤ x) : ¬ x < 0 := by
  rw [gv_le, nI_toInt hc] at h
  rw [gv_lt, gv_i0]
  omega
theorem gv_k7 {x : Nat} (hx : x < 8) : ¬ (7 : Int32) < nI x := nI_nlt (a := 7) (by omega) (by decide)
theorem i_vc_setPixel {k : Nat} {u : SX} {v : SY} (I : i_Rel k u v) (hk : k + 5 ≤ 2563) (v1 : Int32) (v2 : Int32) (v3 : Int32) (v4 : Int32) : wpX_setPixel (fun r u' => wpY_setPixel (fun r' v' => r' = r ∧ i_Rel (k + 5) u' v') v v1 v2 v3 v4) u v1 v2 v3 v4 := by
  obtain ⟨q, r, mb, n, d, o, ph, wp, rp, oa, na, yx, yy, inp, rec, dcd, typ, ord, mod, vcs, nzs, str, isd, vct, bwd, prd, res, cof, lev, ypp, ypd, yzc, rfl, rfl, hL, hc⟩ := I
  have I' : i_Rel (k + 5) (nI q, nI r, nI mb, ph, nI n, nI d, nI o, wp, rp, oa, na, inp, rec, dcd, typ, ord, mod, vcs, nzs, str, isd, vct, bwd, prd, res, cof, lev) (nI q, nI r, nI mb, nI n, ph, nI d, yx, yy, inp, rec, ord, mod, vcs, nzs, ypp, ypd, yzc) := gv_rel hL hc
  have hn := hL.2.2.2.1
  by_cases a : ph = 0
  case neg => exact br_f a (br_f a ⟨rfl, I'⟩)
  refine br_t a ?_
  rcases pk_ix v1 (n := n) (by omega) with z | z | ⟨f, hf, rfl⟩
  · exact gx_bf (Or.inl z) (br_t rfl (br_t a (br_t z ⟨rfl, I'⟩)))
  · exact gx_bf (Or.inr z) (br_t rfl (br_t a (br_f (gv_n0 (by omega) z) (br_f (Int32.not_lt.mpr z) ⟨rfl, I'⟩))))
  refine gx_bt hf (by omega) (br_f (by decide) ?_)
  have y1 : ¬ nI f < 0 := nI_pos (by omega)
  have y2 : nI f < nI n := nI_lt hf (by omega)
  rcases pk_ix v2 (n := 8) (by decide) with z | z | ⟨x, hx, rfl⟩
  · exact gx_bf (c := 8) (Or.inl z) (br_t rfl (br_t a (br_f y1 (br_t y2 (br_t z ⟨rfl, I'⟩)))))
  · exact gx_bf (c := 8) (Or.inr z) (br_t rfl (br_t a (br_f y1 (br_t y2 (br_f (gv_78 z).1 (br_t (gv_78 z).2 ⟨rfl, I'⟩))))))
  refine gx_bt (c := 8) hx (by decide) (br_f (by decide) ?_)
  have y3 : ¬ nI x < 0 := nI_pos (by omega)
  have y4 := gv_k7 hx
  rcases pk_ix v3 (n := 8) (by decide) with z | z | ⟨y, hy, rfl⟩
  · exact gx_bf (c := 8) (Or.inl z) (br_t rfl (br_t a (br_f y1 (br_t y2 (br_f y3 (br_f y4 (br_t z ⟨rfl, I'⟩)))))))
  · exact gx_bf (c := 8) (Or.inr z) (br_t rfl (br_t a (br_f y1 (br_t y2 (br_f y3 (br_f y4 (br_f (gv_78 z).1 (br_t (gv_78 z).2 ⟨rfl, I'⟩))))))))
  refine gx_bt (c := 8) hy (by decide) (br_f (by decide) ?_)
  have y5 : ¬ nI y < 0 := nI_pos (by omega)
  have y6 := gv_k7 hy
  by_cases c1 : v4 < 0
  · exact br_t c1 (br_t a (br_f y1 (br_t y2 (br_f y3 (br_f y4 (br_f y5 (br_f y6 (br_t c1 ⟨rfl, I'⟩))))))))
  refine br_f c1 ?_
  by_cases c2 : v4 ≤ 255
  case neg => exact br_f c2 (br_t a (br_f y1 (br_t y2 (br_f y3 (br_f y4 (br_f y5 (br_f y6 (br_f c1 (br_f c2 ⟨rfl, I'⟩)))))))))
  have e1 : vp_in (((nI f * 64) + (nI y * 8)) + nI x) 512 := by rw [gx_ld]; exact vp_in_nI (by omega) (by decide)
  refine br_t c2 ⟨e1, nm_e (br_t a (br_f y1 (br_t y2 (br_f y3 (br_f y4 (br_f y5 (br_f y6 (br_f c1 (br_t c2 ⟨e1, nm_e ⟨rfl, ?_⟩⟩)))))))))⟩
  obtain ⟨hq, hr, hm, hn, hi, hR⟩ := hL
  refine gv_rel ⟨hq, hr, hm, hn, gv_P_u hi ?_, hR⟩ hc
  rw [gv_lt, gv_i0] at c1
  rw [gv_le, gv_i255] at c2
  exact ⟨by omega, c2⟩
theorem i_vc_encode {k : Nat} {u : SX} {v : SY} (I : i_Rel k u v) (hk : k + 5 ≤ 2563) : wpX_encode (fun r u' => wpY_encode (fun r' v' => r' = r ∧ i_Rel (k + 5) u' v') v) u := by
  obtain ⟨q, r, mb, n, d, o, ph, wp, rp, oa, na, yx, yy, inp, rec, dcd, typ, ord, mod, vcs, nzs, str, isd, vct, bwd, prd, res, cof, lev, ypp, ypd, yzc, rfl, rfl, hL, hc⟩ := I
  have I' : i_Rel (k + 5) (nI q, nI r, nI mb, ph, nI n, nI d, nI o, wp, rp, oa, na, inp, rec, dcd, typ, ord, mod, vcs, nzs, str, isd, vct, bwd, prd, res, cof, lev) (nI q, nI r, nI mb, nI n, ph, nI d, yx, yy, inp, rec, ord, mod, vcs, nzs, ypp, ypd, yzc) := gv_rel hL hc
  by_cases a : ph = 0
  case neg => exact br_f a (br_f a ⟨rfl, I'⟩)
  subst a
  by_cases n0 : n = 0
  · subst n0; exact br_t rfl (br_t rfl (br_t rfl (br_t rfl ⟨rfl, I'⟩)))
  obtain ⟨⟨hq1, hq2⟩, hr, hm, hn, hi, hR⟩ := hL
  refine gx_encode hq1 hq2 hr hm hn (by omega) hi hR (fun s S vct bwd prd res cof lev es hP hJ => gy_encode hq1 hq2 hr hm hn (by omega) hi hR (fun s' yx yy ypp ypd yzc es' => ⟨rfl, ?_⟩))
  rw [← es] at es'
  subst es'
  refine gv_rel (d := 0) (o := 0) ⟨⟨hq1, hq2⟩, hr, hm, hn, hi, hP⟩ (Or.inr ⟨rfl, by omega, by omega, fun k hk => gv_wi_h hk, fun k hk => gv_wi_h hk, rfl, rfl, rfl, hJ, ⟨fun p hp => by omega, fun c hc => by omega⟩, ⟨by omega, fun k hk => by omega, fun _ => rfl⟩, fun k hk => ⟨fun _ => rfl, fun _ => gv_wi_h hk⟩⟩)
theorem i_vc_decodeNext {k : Nat} {u : SX} {v : SY} (I : i_Rel k u v) (hk : k + 5 ≤ 2563) : wpX_decodeNext (fun r u' => wpY_decodeNext (fun r' v' => r' = r ∧ i_Rel (k + 5) u' v') v) u := by
  obtain ⟨q, r, mb, n, d, o, ph, wp, rp, oa, na, yx, yy, inp, rec, dcd, typ, ord, mod, vcs, nzs, str, isd, vct, bwd, prd, res, cof, lev, ypp, ypd, yzc, rfl, rfl, hL, hc⟩ := I
  have I' : i_Rel (k + 5) (nI q, nI r, nI mb, ph, nI n, nI d, nI o, wp, rp, oa, na, inp, rec, dcd, typ, ord, mod, vcs, nzs, str, isd, vct, bwd, prd, res, cof, lev) (nI q, nI r, nI mb, nI n, ph, nI d, yx, yy, inp, rec, ord, mod, vcs, nzs, ypp, ypd, yzc) := gv_rel hL hc
  obtain ⟨⟨hq1, hq2⟩, hr, hm, hn, hi, hR⟩ := hL
  rcases hc with ⟨rfl, rfl, rfl⟩ | ⟨rfl, hC⟩
  · exact br_f (by decide) (br_f (by decide) ⟨rfl, I'⟩)
  obtain ⟨n1, dn, hT, hO, rfl, rfl, rfl, hJ, hD, hOC, hI⟩ := hC
  by_cases e : d = n
  · subst e
    exact br_t rfl (br_t rfl (br_t rfl (br_f (fun z => absurd z (nI_nlt (Nat.le_refl _) (by omega))) ⟨rfl, I'⟩)))
  refine gx_decodeNext hq1 hm hn (by omega) hJ hD hOC hI (fun o' D I vct bwd prd res cof lev HD HO HI => br_t rfl (br_t (nI_lt (by omega) (by omega)) ⟨vp_in_nI (by omega) (by decide), nm_e (nm_r (nI_1 d) ⟨?_, ?_⟩)⟩))
  · rw [nI_clamp (by omega), hO d (by omega)]
  · exact gv_rel ⟨⟨hq1, hq2⟩, hr, hm, hn, hi, hR⟩ (Or.inr ⟨rfl, n1, by omega, hT, hO, rfl, rfl, rfl, hJ, HD, HO, HI⟩)
end
section
/-! what is owed: the questions -/
section
variable {qu rg bf ph fc dc oc wp rp oa na : Int32} {inp rec dcd typ ord mod vcs nzs str isd vct bwd prd res cof lev : Nat → Int32}
theorem gx_ct {post : Int32 → Prop} {f N : Nat} (hf : f < N) (hN : N < 9) (h : post 1) : wpX_isCoded post (qu, rg, bf, 1, nI N, dc, oc, wp, rp, oa, na, inp, rec, dcd, typ, ord, mod, vcs, nzs, str, isd, vct, bwd, prd, res, cof, lev) (nI f) := br_t rfl (gx_bt hf (by omega) (br_f (by decide) h))
theorem gx_cf {post : Int32 → Prop} {v : Int32} {N : Nat} (z : ph ≠ 1 ∨ v < 0 ∨ nI N ≤ v) (h : post 0) : wpX_isCoded post (qu, rg, bf, ph, nI N, dc, oc, wp, rp, oa, na, inp, rec, dcd, typ, ord, mod, vcs, nzs, str, isd, vct, bwd, prd, res, cof, lev) v := by
  refine br_c (fun a => ?_) (fun _ => h)
  rcases z with z | z
  · exact absurd a z
  · exact gx_bf z (br_t rfl h)
end
theorem gv_hO {mb n d : Nat} {ord : gv_F} (hm : mb < 4) (hn : n < 9) (hd : d ≤ n) (hO : ∀ p, p < n → ord p = nI (gv_od mb n p)) : ∀ p, p < d → ord p = nI (gv_od mb n p) ∧ gv_od mb n p < 8 := by
  intro p hp
  have := gv_od_lt mb hm n hn p (by omega)
  exact ⟨hO p (by omega), by omega⟩
/-- the reference's count in every state that the relation allows -/
theorem gv_outc {q r mb n d o : Nat} {ph rp oa na yx yy : Int32} {inp rec dcd typ ord str isd mod vcs nzs ypp ypd yzc : gv_F} {post : Int32 → Prop} (hL : gv_L q r mb n inp rec) (hc : (ph = 0 ∧ d = 0 ∧ o = 0) ∨ (ph = 1 ∧ gv_C q mb n d o rec dcd typ ord str isd rp oa na)) (h : post (nI o)) : wpY_outCount post (nI q, nI r, nI mb, nI n, ph, nI d, yx, yy, inp, rec, ord, mod, vcs, nzs, ypp, ypd, yzc) := by
  obtain ⟨hq, hr, hm, hn, hi, hR⟩ := hL
  rcases hc with ⟨rfl, rfl, rfl⟩ | ⟨rfl, hC⟩
  · exact gy_out (mb := mb) hn (by omega) (fun p hp => by omega) ⟨by omega, fun k hk => by omega, fun _ => rfl⟩ h
  · obtain ⟨n1, dn, hT, hO, rfl, rfl, rfl, hJ, hD, hOC, hI⟩ := hC
    exact gy_out (mb := mb) hn (by omega) (gv_hO hm hn dn hO) hOC h
theorem i_vc_status {k : Nat} {u : SX} {v : SY} (I : i_Rel k u v) (hk : k + 5 ≤ 2563) (v1 : Int32) : wpX_status (fun r => wpY_status (fun r' => r' = r ∧ i_Rel (k + 5) u v) v v1) u v1 := by
  obtain ⟨q, r, mb, n, d, o, ph, wp, rp, oa, na, yx, yy, inp, rec, dcd, typ, ord, mod, vcs, nzs, str, isd, vct, bwd, prd, res, cof, lev, ypp, ypd, yzc, rfl, rfl, hL, hc⟩ := I
  have I' : i_Rel (k + 5) (nI q, nI r, nI mb, ph, nI n, nI d, nI o, wp, rp, oa, na, inp, rec, dcd, typ, ord, mod, vcs, nzs, str, isd, vct, bwd, prd, res, cof, lev) (nI q, nI r, nI mb, nI n, ph, nI d, yx, yy, inp, rec, ord, mod, vcs, nzs, ypp, ypd, yzc) := gv_rel hL hc
  by_cases a0 : v1 = 0
  · subst a0; exact br_f (by decide) (br_f (by decide) (br_t rfl (br_t rfl ⟨rfl, I'⟩)))
  by_cases a1 : v1 = 1
  · subst a1; exact br_f (by decide) (br_f (by decide) (br_f (by decide) (br_t rfl (br_f (by decide) (br_t rfl ⟨rfl, I'⟩)))))
  by_cases a2 : v1 = 2
  · subst a2; exact br_f (by decide) (br_f (by decide) (br_f (by decide) (br_f (by decide) (br_t rfl (br_f (by decide) (br_f (by decide) (br_t rfl ⟨rfl, I'⟩)))))))
  by_cases a3 : v1 = 3
  · subst a3; exact br_f (by decide) (br_f (by decide) (br_f (by decide) (br_f (by decide) (br_f (by decide) (br_t rfl (br_f (by decide) (br_f (by decide) (br_f (by decide) (br_t rfl (gv_outc hL hc ⟨rfl, I'⟩))))))))))
  by_cases a4 : v1 = 4
  · subst a4; exact br_f (by decide) (br_f (by decide) (br_f (by decide) (br_f (by decide) (br_f (by decide) (br_f (by decide) (br_t rfl (br_f (by decide) (br_f (by decide) (br_f (by decide) (br_f (by decide) (br_t rfl ⟨rfl, I'⟩)))))))))))
  by_cases a5 : v1 = 5
  · subst a5; exact br_f (by decide) (br_f (by decide) (br_f (by decide) (br_f (by decide) (br_f (by decide) (br_f (by decide) (br_f (by decide) (br_t rfl (br_f (by decide) (br_f (by decide) (br_f (by decide) (br_f (by decide) (br_f (by decide) (br_t rfl ⟨rfl, I'⟩)))))))))))))
  by_cases a6 : v1 = 6
  · subst a6; exact br_f (by decide) (br_f (by decide) (br_f (by decide) (br_f (by decide) (br_f (by decide) (br_f (by decide) (br_f (by decide) (br_f (by decide) (br_t rfl (br_f (by decide) (br_f (by decide) (br_f (by decide) (br_f (by decide) (br_f (by decide) (br_f (by decide) (br_t rfl ⟨rfl, I'⟩)))))))))))))))
  have Y : wpY_status (fun r' => r' = -1 ∧ i_Rel (k + 5) (nI q, nI r, nI mb, ph, nI n, nI d, nI o, wp, rp, oa, na, inp, rec, dcd, typ, ord, mod, vcs, nzs, str, isd, vct, bwd, prd, res, cof, lev) (nI q, nI r, nI mb, nI n, ph, nI d, yx, yy, inp, rec, ord, mod, vcs, nzs, ypp, ypd, yzc)) (nI q, nI r, nI mb, nI n, ph, nI d, yx, yy, inp, rec, ord, mod, vcs, nzs, ypp, ypd, yzc) v1 := br_f a0 (br_f a1 (br_f a2 (br_f a3 (br_f a4 (br_f a5 (br_f a6 ⟨rfl, I'⟩))))))
  exact br_c (fun _ => Y) (fun _ => br_c (fun _ => Y) (fun _ => br_f a0 (br_f a1 (br_f a2 (br_f a3 (br_f a4 (br_f a5 (br_f a6 trivial))))))))
theorem i_vc_frameType {k : Nat} {u : SX} {v : SY} (I : i_Rel k u v) (hk : k + 5 ≤ 2563) (v1 : Int32) : wpX_frameType (fun r => wpY_frameType (fun r' => r' = r ∧ i_Rel (k + 5) u v) v v1) u v1 := by
  obtain ⟨q, r, mb, n, d, o, ph, wp, rp, oa, na, yx, yy, inp, rec, dcd, typ, ord, mod, vcs, nzs, str, isd, vct, bwd, prd, res, cof, lev, ypp, ypd, yzc, rfl, rfl, hL, hc⟩ := I
  have I' : i_Rel (k + 5) (nI q, nI r, nI mb, ph, nI n, nI d, nI o, wp, rp, oa, na, inp, rec, dcd, typ, ord, mod, vcs, nzs, str, isd, vct, bwd, prd, res, cof, lev) (nI q, nI r, nI mb, nI n, ph, nI d, yx, yy, inp, rec, ord, mod, vcs, nzs, ypp, ypd, yzc) := gv_rel hL hc
  unfold wpX_frameType
  dsimp only
  obtain ⟨hq, hr, hm, hn, hi, hR⟩ := hL
  rcases hc with ⟨rfl, rfl, rfl⟩ | ⟨rfl, hC⟩
  · exact gx_cf (Or.inl (by decide)) (br_t rfl (br_f (by decide) ⟨rfl, I'⟩))
  obtain ⟨n1, dn, hT, hO, rfl, rfl, rfl, hJ, hD, hOC, hI⟩ := hC
  rcases pk_ix v1 (n := n) (by omega) with z | z | ⟨f, hf, rfl⟩
  · exact gx_cf (Or.inr (Or.inl z)) (br_t rfl (br_t rfl (br_t z ⟨rfl, I'⟩)))
  · exact gx_cf (Or.inr (Or.inr z)) (br_t rfl (br_t rfl (br_f (gv_n0 (by omega) z) (br_f (Int32.not_lt.mpr z) ⟨rfl, I'⟩))))
  refine gx_ct hf hn (br_f (by decide) ⟨vp_in_nI (by omega) (by decide), br_t rfl (br_f (nI_pos (by omega)) (br_t (nI_lt hf (by omega)) (gy_type hm hn n1 (by omega) ⟨?_, I'⟩)))⟩)
  rw [nI_clamp (by omega), hT f hf]
theorem i_vc_codingOrder {k : Nat} {u : SX} {v : SY} (I : i_Rel k u v) (hk : k + 5 ≤ 2563) (v1 : Int32) : wpX_codingOrder (fun r => wpY_codingOrder (fun r' => r' = r ∧ i_Rel (k + 5) u v) v v1) u v1 := by
  obtain ⟨q, r, mb, n, d, o, ph, wp, rp, oa, na, yx, yy, inp, rec, dcd, typ, ord, mod, vcs, nzs, str, isd, vct, bwd, prd, res, cof, lev, ypp, ypd, yzc, rfl, rfl, hL, hc⟩ := I
  have I' : i_Rel (k + 5) (nI q, nI r, nI mb, ph, nI n, nI d, nI o, wp, rp, oa, na, inp, rec, dcd, typ, ord, mod, vcs, nzs, str, isd, vct, bwd, prd, res, cof, lev) (nI q, nI r, nI mb, nI n, ph, nI d, yx, yy, inp, rec, ord, mod, vcs, nzs, ypp, ypd, yzc) := gv_rel hL hc
  unfold wpX_codingOrder
  dsimp only
  obtain ⟨hq, hr, hm, hn, hi, hR⟩ := hL
  rcases hc with ⟨rfl, rfl, rfl⟩ | ⟨rfl, hC⟩
  · exact gx_cf (Or.inl (by decide)) (br_t rfl (br_f (by decide) ⟨rfl, I'⟩))
  rcases pk_ix v1 (n := n) (by omega) with z | z | ⟨f, hf, rfl⟩
  · exact gx_cf (Or.inr (Or.inl z)) (br_t rfl (br_t rfl (br_t z ⟨rfl, I'⟩)))
  · exact gx_cf (Or.inr (Or.inr z)) (br_t rfl (br_t rfl (br_f (gv_n0 (by omega) z) (br_f (Int32.not_lt.mpr z) ⟨rfl, I'⟩))))
  exact gx_ct hf hn (br_f (by decide) ⟨vp_in_nI (by omega) (by decide), br_t rfl (br_f (nI_pos (by omega)) (br_t (nI_lt hf (by omega)) ⟨vp_in_nI (by omega) (by decide), rfl, I'⟩))⟩)
theorem gv_k4 {x : Int32} (h : nI 4 ≤ x) : ¬ x < 0 ∧ ¬ x ≤ 3 := by
  rw [gv_le, show (nI 4).toInt = 4 from by decide] at h
  rw [gv_lt, gv_le, gv_i0, show (3 : Int32).toInt = 3 from by decide]
  omega
theorem gv_k3 {b : Nat} (h : b < 4) : nI b ≤ 3 := nI_le (b := 3) (by omega) (by decide)
theorem gv_k2 {x : Int32} (h : nI 2 ≤ x) : ¬ x < 0 ∧ 1 < x ∧ ¬ x ≤ 1 := by
  rw [gv_le, show (nI 2).toInt = 2 from by decide] at h
  rw [gv_lt, gv_lt, gv_le, gv_i0, show (1 : Int32).toInt = 1 from by decide]
  omega
theorem i_vc_blockMode {k : Nat} {u : SX} {v : SY} (I : i_Rel k u v) (hk : k + 5 ≤ 2563) (v1 : Int32) (v2 : Int32) : wpX_blockMode (fun r => wpY_blockMode (fun r' => r' = r ∧ i_Rel (k + 5) u v) v v1 v2) u v1 v2 := by
  obtain ⟨q, r, mb, n, d, o, ph, wp, rp, oa, na, yx, yy, inp, rec, dcd, typ, ord, mod, vcs, nzs, str, isd, vct, bwd, prd, res, cof, lev, ypp, ypd, yzc, rfl, rfl, hL, hc⟩ := I
  have I' : i_Rel (k + 5) (nI q, nI r, nI mb, ph, nI n, nI d, nI o, wp, rp, oa, na, inp, rec, dcd, typ, ord, mod, vcs, nzs, str, isd, vct, bwd, prd, res, cof, lev) (nI q, nI r, nI mb, nI n, ph, nI d, yx, yy, inp, rec, ord, mod, vcs, nzs, ypp, ypd, yzc) := gv_rel hL hc
  unfold wpX_blockMode
  dsimp only
  obtain ⟨hq, hr, hm, hn, hi, hR⟩ := hL
  rcases hc with ⟨rfl, rfl, rfl⟩ | ⟨rfl, hC⟩
  · exact gx_cf (Or.inl (by decide)) (br_t rfl (br_f (by decide) ⟨rfl, I'⟩))
  rcases pk_ix v1 (n := n) (by omega) with z | z | ⟨f, hf, rfl⟩
  · exact gx_cf (Or.inr (Or.inl z)) (br_t rfl (br_t rfl (br_t z ⟨rfl, I'⟩)))
  · exact gx_cf (Or.inr (Or.inr z)) (br_t rfl (br_t rfl (br_f (gv_n0 (by omega) z) (br_t z ⟨rfl, I'⟩))))
  refine gx_ct hf hn (br_f (by decide) ?_)
  have y1 : ¬ nI f < 0 := nI_pos (by omega)
  have y2 : ¬ nI n ≤ nI f := nI_ge hf (by omega)
  rcases pk_ix v2 (n := 4) (by decide) with z | z | ⟨b, hb, rfl⟩
  · exact gx_bf (c := 4) (Or.inl z) (br_t rfl (br_t rfl (br_f y1 (br_f y2 (br_t z ⟨rfl, I'⟩)))))
  · exact gx_bf (c := 4) (Or.inr z) (br_t rfl (br_t rfl (br_f y1 (br_f y2 (br_f (gv_k4 z).1 (br_f (gv_k4 z).2 ⟨rfl, I'⟩))))))
  have e1 : vp_in ((nI f * 4) + nI b) 32 := by rw [gx_4]; exact vp_in_nI (by omega) (by decide)
  exact gx_bt (c := 4) hb (by decide) (br_f (by decide) ⟨e1, br_t rfl (br_f y1 (br_f y2 (br_f (nI_pos (by omega)) (br_t (gv_k3 hb) ⟨e1, rfl, I'⟩))))⟩)
theorem i_vc_nonZero {k : Nat} {u : SX} {v : SY} (I : i_Rel k u v) (hk : k + 5 ≤ 2563) (v1 : Int32) (v2 : Int32) : wpX_nonZero (fun r => wpY_nonZero (fun r' => r' = r ∧ i_Rel (k + 5) u v) v v1 v2) u v1 v2 := by
  obtain ⟨q, r, mb, n, d, o, ph, wp, rp, oa, na, yx, yy, inp, rec, dcd, typ, ord, mod, vcs, nzs, str, isd, vct, bwd, prd, res, cof, lev, ypp, ypd, yzc, rfl, rfl, hL, hc⟩ := I
  have I' : i_Rel (k + 5) (nI q, nI r, nI mb, ph, nI n, nI d, nI o, wp, rp, oa, na, inp, rec, dcd, typ, ord, mod, vcs, nzs, str, isd, vct, bwd, prd, res, cof, lev) (nI q, nI r, nI mb, nI n, ph, nI d, yx, yy, inp, rec, ord, mod, vcs, nzs, ypp, ypd, yzc) := gv_rel hL hc
  unfold wpX_nonZero
  dsimp only
  obtain ⟨hq, hr, hm, hn, hi, hR⟩ := hL
  rcases hc with ⟨rfl, rfl, rfl⟩ | ⟨rfl, hC⟩
  · exact gx_cf (Or.inl (by decide)) (br_t rfl (br_f (by decide) ⟨rfl, I'⟩))
  rcases pk_ix v1 (n := n) (by omega) with z | z | ⟨f, hf, rfl⟩
  · exact gx_cf (Or.inr (Or.inl z)) (br_t rfl (br_t rfl (br_t z ⟨rfl, I'⟩)))
  · exact gx_cf (Or.inr (Or.inr z)) (br_t rfl (br_t rfl (br_f (gv_n0 (by omega) z) (br_t z ⟨rfl, I'⟩))))
  refine gx_ct hf hn (br_f (by decide) ?_)
  have y1 : ¬ nI f < 0 := nI_pos (by omega)
  have y2 : ¬ nI n ≤ nI f := nI_ge hf (by omega)
  rcases pk_ix v2 (n := 4) (by decide) with z | z | ⟨b, hb, rfl⟩
  · exact gx_bf (c := 4) (Or.inl z) (br_t rfl (br_t rfl (br_f y1 (br_f y2 (br_t z ⟨rfl, I'⟩)))))
  · exact gx_bf (c := 4) (Or.inr z) (br_t rfl (br_t rfl (br_f y1 (br_f y2 (br_f (gv_k4 z).1 (br_f (gv_k4 z).2 ⟨rfl, I'⟩))))))
  have e1 : vp_in ((nI f * 4) + nI b) 32 := by rw [gx_4]; exact vp_in_nI (by omega) (by decide)
  exact gx_bt (c := 4) hb (by decide) (br_f (by decide) ⟨e1, br_t rfl (br_f y1 (br_f y2 (br_f (nI_pos (by omega)) (br_t (gv_k3 hb) ⟨e1, rfl, I'⟩))))⟩)
theorem gv_i16 {f b l c : Nat} : (((nI f * 4) + nI b) * 4) + nI (l * 2 + c) = (((((nI f * 4) + nI b) * 4) + (nI l * 2)) + nI c) := by
  rw [show (2 : Int32) = nI 2 from rfl, pk_mul, Int32.add_assoc, nI_add]
theorem gv_i17 {f b l c : Nat} : (((((nI f * 4) + nI b) * 4) + (nI l * 2)) + nI c) = nI ((f * 4 + b) * 4 + l * 2 + c) := by
  rw [gx_4, show (2 : Int32) = nI 2 from rfl, show (4 : Int32) = nI 4 from rfl, pk_mul, pk_mul, nI_add, nI_add]
theorem i_vc_blockVector {k : Nat} {u : SX} {v : SY} (I : i_Rel k u v) (hk : k + 5 ≤ 2563) (v1 : Int32) (v2 : Int32) (v3 : Int32) (v4 : Int32) : wpX_blockVector (fun r => wpY_blockVector (fun r' => r' = r ∧ i_Rel (k + 5) u v) v v1 v2 v3 v4) u v1 v2 v3 v4 := by
  obtain ⟨q, r, mb, n, d, o, ph, wp, rp, oa, na, yx, yy, inp, rec, dcd, typ, ord, mod, vcs, nzs, str, isd, vct, bwd, prd, res, cof, lev, ypp, ypd, yzc, rfl, rfl, hL, hc⟩ := I
  have I' : i_Rel (k + 5) (nI q, nI r, nI mb, ph, nI n, nI d, nI o, wp, rp, oa, na, inp, rec, dcd, typ, ord, mod, vcs, nzs, str, isd, vct, bwd, prd, res, cof, lev) (nI q, nI r, nI mb, nI n, ph, nI d, yx, yy, inp, rec, ord, mod, vcs, nzs, ypp, ypd, yzc) := gv_rel hL hc
  unfold wpX_blockVector
  dsimp only
  obtain ⟨hq, hr, hm, hn, hi, hR⟩ := hL
  rcases hc with ⟨rfl, rfl, rfl⟩ | ⟨rfl, hC⟩
  · exact gx_cf (Or.inl (by decide)) (br_t rfl (br_f (by decide) ⟨rfl, I'⟩))
  rcases pk_ix v1 (n := n) (by omega) with z | z | ⟨f, hf, rfl⟩
  · exact gx_cf (Or.inr (Or.inl z)) (br_t rfl (br_t rfl (br_t z ⟨rfl, I'⟩)))
  · exact gx_cf (Or.inr (Or.inr z)) (br_t rfl (br_t rfl (br_f (gv_n0 (by omega) z) (br_t z ⟨rfl, I'⟩))))
  refine gx_ct hf hn (br_f (by decide) ?_)
  have y1 : ¬ nI f < 0 := nI_pos (by omega)
  have y2 : ¬ nI n ≤ nI f := nI_ge hf (by omega)
  rcases pk_ix v2 (n := 4) (by decide) with z | z | ⟨b, hb, rfl⟩
  · exact gx_bf (c := 4) (Or.inl z) (br_t rfl (br_t rfl (br_f y1 (br_f y2 (br_t z ⟨rfl, I'⟩)))))
  · exact gx_bf (c := 4) (Or.inr z) (br_t rfl (br_t rfl (br_f y1 (br_f y2 (br_f (gv_k4 z).1 (br_f (gv_k4 z).2 ⟨rfl, I'⟩))))))
  refine gx_bt (c := 4) hb (by decide) (br_f (by decide) ?_)
  have y3 : ¬ nI b < 0 := nI_pos (by omega)
  have y4 := gv_k3 hb
  rcases pk_ix v3 (n := 2) (by decide) with z | z | ⟨l, hl, rfl⟩
  · exact gx_bf (c := 2) (Or.inl z) (br_t rfl (br_t rfl (br_f y1 (br_f y2 (br_f y3 (br_t y4 (br_t z ⟨rfl, I'⟩)))))))
  · exact gx_bf (c := 2) (Or.inr z) (br_t rfl (br_t rfl (br_f y1 (br_f y2 (br_f y3 (br_t y4 (br_f (gv_k2 z).1 (br_t (gv_k2 z).2.1 ⟨rfl, I'⟩))))))))
  refine gx_bt (c := 2) hl (by decide) (br_f (by decide) ?_)
  have y5 : ¬ nI l < 0 := nI_pos (by omega)
  have y6 : ¬ (1 : Int32) < nI l := nI_nlt (a := 1) (by omega) (by decide)
  rcases pk_ix v4 (n := 2) (by decide) with z | z | ⟨c, hcc, rfl⟩
  · exact gx_bf (c := 2) (Or.inl z) (br_t rfl (br_t rfl (br_f y1 (br_f y2 (br_f y3 (br_t y4 (br_f y5 (br_f y6 (br_t z ⟨rfl, I'⟩)))))))))
  · exact gx_bf (c := 2) (Or.inr z) (br_t rfl (br_t rfl (br_f y1 (br_f y2 (br_f y3 (br_t y4 (br_f y5 (br_f y6 (br_f (gv_k2 z).1 (br_f (gv_k2 z).2.2 ⟨rfl, I'⟩))))))))))
  refine gx_bt (c := 2) hcc (by decide) (br_f (by decide) ?_)
  have y7 : ¬ nI c < 0 := nI_pos (by omega)
  have y8 : nI c ≤ 1 := nI_le (b := 1) (by omega) (by decide)
  have e1 : vp_in (((((nI f * 4) + nI b) * 4) + (nI l * 2)) + nI c) 128 := by rw [gv_i17]; exact vp_in_nI (by omega) (by decide)
  have W : ∀ z0 : Int32, z0 + nI c = nI (l * 2 + c) → wX_blockVector_48 (fun r0 => wpY_blockVector (fun r' => r' = r0 ∧ i_Rel (k + 5) (nI q, nI r, nI mb, 1, nI n, nI d, nI o, wp, rp, oa, na, inp, rec, dcd, typ, ord, mod, vcs, nzs, str, isd, vct, bwd, prd, res, cof, lev) (nI q, nI r, nI mb, nI n, 1, nI d, yx, yy, inp, rec, ord, mod, vcs, nzs, ypp, ypd, yzc)) (nI q, nI r, nI mb, nI n, 1, nI d, yx, yy, inp, rec, ord, mod, vcs, nzs, ypp, ypd, yzc) (nI f) (nI b) (nI l) (nI c)) (nI f) (nI b) (nI c) z0 (nI q) (nI r) (nI mb) 1 (nI n) (nI d) (nI o) wp rp oa na inp rec dcd typ ord mod vcs nzs str isd vct bwd prd res cof lev := by
    intro z0 ez
    refine nm_r ez ⟨?_, br_t rfl (br_f y1 (br_f y2 (br_f y3 (br_t y4 (br_f y5 (br_f y6 (br_f y7 (br_t y8 ⟨e1, ?_, I'⟩))))))))⟩
    · rw [gv_i16]; exact e1
    · rw [gv_i16]
  rcases (by omega : l = 0 ∨ l = 1) with rfl | rfl
  · refine br_t rfl (W 0 ?_)
    rw [show (0 : Int32) = nI 0 from rfl, nI_add]
  · refine br_f (by decide) (W 2 ?_)
    rw [show (2 : Int32) = nI 2 from rfl, nI_add]
theorem i_vc_pixel {k : Nat} {u : SX} {v : SY} (I : i_Rel k u v) (hk : k + 5 ≤ 2563) (v1 : Int32) (v2 : Int32) (v3 : Int32) (v4 : Int32) : wpX_pixel (fun r => wpY_pixel (fun r' => r' = r ∧ i_Rel (k + 5) u v) v v1 v2 v3 v4) u v1 v2 v3 v4 := by
  obtain ⟨q, r, mb, n, d, o, ph, wp, rp, oa, na, yx, yy, inp, rec, dcd, typ, ord, mod, vcs, nzs, str, isd, vct, bwd, prd, res, cof, lev, ypp, ypd, yzc, rfl, rfl, hL, hc⟩ := I
  have I' : i_Rel (k + 5) (nI q, nI r, nI mb, ph, nI n, nI d, nI o, wp, rp, oa, na, inp, rec, dcd, typ, ord, mod, vcs, nzs, str, isd, vct, bwd, prd, res, cof, lev) (nI q, nI r, nI mb, nI n, ph, nI d, yx, yy, inp, rec, ord, mod, vcs, nzs, ypp, ypd, yzc) := gv_rel hL hc
  have OUT := @gv_outc q r mb n d o ph rp oa na yx yy inp rec dcd typ ord str isd mod vcs nzs ypp ypd yzc
  unfold wpX_pixel
  dsimp only
  have hn := hL.2.2.2.1
  have hm := hL.2.2.1
  rcases pk_ix v3 (n := 8) (by decide) with z | z | ⟨x, hx, rfl⟩
  · exact gx_bf (c := 8) (Or.inl z) (br_t rfl (br_t z ⟨rfl, I'⟩))
  · exact gx_bf (c := 8) (Or.inr z) (br_t rfl (br_f (gv_78 z).1 (br_t (gv_78 z).2 ⟨rfl, I'⟩)))
  refine gx_bt (c := 8) hx (by decide) (br_f (by decide) ?_)
  have y1 : ¬ nI x < 0 := nI_pos (by omega)
  have y2 := gv_k7 hx
  rcases pk_ix v4 (n := 8) (by decide) with z | z | ⟨y, hy, rfl⟩
  · exact gx_bf (c := 8) (Or.inl z) (br_t rfl (br_f y1 (br_f y2 (br_t z ⟨rfl, I'⟩))))
  · have : ¬ v4 ≤ 7 := Int32.not_le.mpr (gv_78 z).2
    exact gx_bf (c := 8) (Or.inr z) (br_t rfl (br_f y1 (br_f y2 (br_f (gv_78 z).1 (br_f this ⟨rfl, I'⟩)))))
  have y3 : ¬ nI y < 0 := nI_pos (by omega)
  have y4 : nI y ≤ 7 := nI_le (b := 7) (by omega) (by decide)
  refine gx_bt (c := 8) hy (by decide) (br_f (by decide) (nm_r (e' := nI (y * 8 + x)) (by rw [show (8 : Int32) = nI 8 from rfl, pk_mul, nI_add]) ?_))
  have ex : ∀ f : Nat, nI f * 64 + nI (y * 8 + x) = nI (f * 64 + (y * 8 + x)) := fun f => gv_e64
  have ey : ∀ f : Nat, ((nI f * 64) + (nI y * 8)) + nI x = nI (f * 64 + (y * 8 + x)) := fun f => by rw [gx_ld, Nat.add_assoc]
  have vi : ∀ f : Nat, f < 8 → vp_in (nI (f * 64 + (y * 8 + x))) 512 := fun f hf => vp_in_nI (by omega) (by decide)
  by_cases p0 : v1 = 0
  · subst p0
    refine br_t rfl ?_
    rcases pk_ix v2 (n := n) (by omega) with z | z | ⟨f, hf, rfl⟩
    · exact gx_bf (Or.inl z) (br_t rfl (br_f (by decide) (br_f (by decide) (br_f y1 (br_f y2 (br_f y3 (br_t y4 (br_t rfl (br_t z ⟨rfl, I'⟩)))))))))
    · exact gx_bf (Or.inr z) (br_t rfl (br_f (by decide) (br_f (by decide) (br_f y1 (br_f y2 (br_f y3 (br_t y4 (br_t rfl (br_f (gv_n0 (by omega) z) (br_f (Int32.not_lt.mpr z) ⟨rfl, I'⟩))))))))))
    · refine gx_bt hf (by omega) (br_f (by decide) ⟨by rw [ex]; exact vi f (by omega), br_f y1 (br_f y2 (br_f y3 (br_t y4 (br_t rfl (br_f (nI_pos (by omega)) (br_t (nI_lt hf (by omega)) ⟨by rw [ey]; exact vi f (by omega), ?_, I'⟩))))))⟩)
      rw [ex, ey]
  refine br_f p0 ?_
  by_cases p1 : v1 = 1
  · subst p1
    refine br_t rfl ?_
    by_cases hp : ph = 1
    case neg => exact gx_cf (Or.inl hp) (br_t rfl (br_f (by decide) (br_f y1 (br_f y2 (br_f y3 (br_t y4 (br_f (by decide) (br_t rfl (br_f hp ⟨rfl, I'⟩)))))))))
    subst hp
    rcases pk_ix v2 (n := n) (by omega) with z | z | ⟨f, hf, rfl⟩
    · exact gx_cf (Or.inr (Or.inl z)) (br_t rfl (br_f (by decide) (br_f y1 (br_f y2 (br_f y3 (br_t y4 (br_f (by decide) (br_t rfl (br_t rfl (br_t z ⟨rfl, I'⟩))))))))))
    · exact gx_cf (Or.inr (Or.inr z)) (br_t rfl (br_f (by decide) (br_f y1 (br_f y2 (br_f y3 (br_t y4 (br_f (by decide) (br_t rfl (br_t rfl (br_f (gv_n0 (by omega) z) (br_f (Int32.not_lt.mpr z) ⟨rfl, I'⟩)))))))))))
    · refine gx_ct hf hn (br_f (by decide) ⟨by rw [ex]; exact vi f (by omega), br_f y1 (br_f y2 (br_f y3 (br_t y4 (br_f (by decide) (br_t rfl (br_t rfl (br_f (nI_pos (by omega)) (br_t (nI_lt hf (by omega)) ⟨by rw [ey]; exact vi f (by omega), ?_, I'⟩))))))))⟩)
      rw [ex, ey]
  refine br_f p1 ?_
  by_cases p2 : v1 = 2
  case neg => exact br_f p2 (br_f y1 (br_f y2 (br_f y3 (br_t y4 (br_f p0 (br_f p1 (br_f p2 ⟨rfl, I'⟩)))))))
  subst p2
  refine br_t rfl ?_
  have ho : o ≤ 8 := by
    rcases hc with ⟨-, -, rfl⟩ | ⟨-, hC⟩
    · omega
    · have := hC.2.2.2.2.2.2.2.2.2.1.1; omega
  rcases pk_ix v2 (n := o) (by omega) with z | z | ⟨f, hf, rfl⟩
  · exact gx_bf (Or.inl z) (br_t rfl (br_f y1 (br_f y2 (br_f y3 (br_t y4 (br_f (by decide) (br_f (by decide) (br_t rfl (br_t z ⟨rfl, I'⟩)))))))))
  · exact gx_bf (Or.inr z) (br_t rfl (br_f y1 (br_f y2 (br_f y3 (br_t y4 (br_f (by decide) (br_f (by decide) (br_t rfl (br_f (gv_n0 (by omega) z) (OUT hL hc (br_f (Int32.not_lt.mpr z) ⟨rfl, I'⟩)))))))))))
  · refine gx_bt hf (by omega) (br_f (by decide) ⟨by rw [ex]; exact vi f (by omega), br_f y1 (br_f y2 (br_f y3 (br_t y4 (br_f (by decide) (br_f (by decide) (br_t rfl (br_f (nI_pos (by omega)) (OUT hL hc (br_t (nI_lt hf (by omega)) ⟨by rw [ey]; exact vi f (by omega), ?_, I'⟩)))))))))⟩)
    rw [ex, ey, nI_clamp (by omega)]
    rcases hc with ⟨-, -, rfl⟩ | ⟨-, hC⟩
    · omega
    · obtain ⟨n1, dn, hT, hO, rfl, rfl, rfl, hJ, hD, hOC, hI⟩ := hC
      obtain ⟨p, hp, ep⟩ := gv_in_e (hOC.2.1 f hf)
      rw [← ep]
      exact (hD.1 p hp _ (by omega)).symm
theorem i_vc_outputFrame {k : Nat} {u : SX} {v : SY} (I : i_Rel k u v) (hk : k + 5 ≤ 2563) (v1 : Int32) : wpX_outputFrame (fun r => wpY_outputFrame (fun r' => r' = r ∧ i_Rel (k + 5) u v) v v1) u v1 := by
  obtain ⟨q, r, mb, n, d, o, ph, wp, rp, oa, na, yx, yy, inp, rec, dcd, typ, ord, mod, vcs, nzs, str, isd, vct, bwd, prd, res, cof, lev, ypp, ypd, yzc, rfl, rfl, hL, hc⟩ := I
  have I' : i_Rel (k + 5) (nI q, nI r, nI mb, ph, nI n, nI d, nI o, wp, rp, oa, na, inp, rec, dcd, typ, ord, mod, vcs, nzs, str, isd, vct, bwd, prd, res, cof, lev) (nI q, nI r, nI mb, nI n, ph, nI d, yx, yy, inp, rec, ord, mod, vcs, nzs, ypp, ypd, yzc) := gv_rel hL hc
  have OUT := @gv_outc q r mb n d o ph rp oa na yx yy inp rec dcd typ ord str isd mod vcs nzs ypp ypd yzc
  unfold wpX_outputFrame
  dsimp only
  have hn := hL.2.2.2.1
  have ho : o ≤ 8 := by
    rcases hc with ⟨-, -, rfl⟩ | ⟨-, hC⟩
    · omega
    · have := hC.2.2.2.2.2.2.2.2.2.1.1; omega
  rcases pk_ix v1 (n := o) (by omega) with z | z | ⟨f, hf, rfl⟩
  · exact gx_bf (Or.inl z) (br_t rfl (br_t z ⟨rfl, I'⟩))
  · exact gx_bf (Or.inr z) (br_t rfl (br_f (gv_n0 (by omega) z) (OUT hL hc (br_f (Int32.not_lt.mpr z) ⟨rfl, I'⟩))))
  · exact gx_bt hf (by omega) (br_f (by decide) (br_f (nI_pos (by omega)) (OUT hL hc (br_t (nI_lt hf (by omega)) ⟨rfl, I'⟩))))
end
