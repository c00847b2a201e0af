/-! pure pictures: sums, successive writes, pixels, blocks -/
def gv_sm (f : Nat → Int32) : Nat → Int32
  | 0 => 0
  | n + 1 => gv_sm f n + f n
def gv_wr (a : Nat → Int32) (g : Nat → Nat) (v : Nat → Int32) : Nat → Nat → Int32
  | 0 => a
  | n + 1 => upd (gv_wr a g v n) (g n) (v n)
theorem gv_sm_s (f : Nat → Int32) (n : Nat) : gv_sm f n + f n = gv_sm f (n + 1) := rfl
theorem gv_wr_s (a : Nat → Int32) (g : Nat → Nat) (v : Nat → Int32) (n : Nat) : upd (gv_wr a g v n) (g n) (v n) = gv_wr a g v (n + 1) := rfl
theorem gv_sm_c {f g : Nat → Int32} : ∀ n, (∀ i, i < n → f i = g i) → gv_sm f n = gv_sm g n
  | 0, _ => rfl
  | n + 1, h => by
    show gv_sm f n + f n = gv_sm g n + g n
    rw [gv_sm_c n (fun i hi => h i (by omega)), h n (by omega)]
theorem gv_wr_c {a : Nat → Int32} {g g' : Nat → Nat} {v w : Nat → Int32} : ∀ n, (∀ i, i < n → g i = g' i) → (∀ i, i < n → v i = w i) → gv_wr a g v n = gv_wr a g' w n
  | 0, _, _ => rfl
  | n + 1, hg, h => by
    show upd (gv_wr a g v n) (g n) (v n) = upd (gv_wr a g' w n) (g' n) (w n)
    rw [gv_wr_c n (fun i hi => hg i (by omega)) (fun i hi => h i (by omega)), h n (by omega), hg n (by omega)]
theorem gv_wr_m {a : Nat → Int32} {g : Nat → Nat} {v : Nat → Int32} {j : Nat} : ∀ n, (∀ i, i < n → j ≠ g i) → gv_wr a g v n j = a j
  | 0, _ => rfl
  | n + 1, h => by
    show upd (gv_wr a g v n) (g n) (v n) j = a j
    rw [pk_un (h n (by omega)), gv_wr_m n (fun i hi => h i (by omega))]
theorem gv_wr_h {a : Nat → Int32} {g : Nat → Nat} {v : Nat → Int32} {i : Nat} : ∀ n, (∀ j, j < n → g i = g j → i = j) → i < n → gv_wr a g v n (g i) = v i
  | 0, _, h => by omega
  | n + 1, inj, h => by
    show upd (gv_wr a g v n) (g n) (v n) (g i) = v i
    by_cases e : i = n
    · subst e; exact pk_us
    · rw [pk_un (fun z => e (inj n (by omega) z)), gv_wr_h n (fun j hj => inj j (by omega)) (by omega)]
/-- a pixel: 0 to 255 -/
def gv_px (x : Int32) : Prop := 0 ≤ x.toInt ∧ x.toInt ≤ 255
def gv_P (a : Nat → Int32) : Prop := ∀ j, gv_px (a j)
theorem gv_P0 : gv_P (fun _ => 0) := fun _ => (⟨by decide, by decide⟩ : gv_px 0)
theorem gv_P_u {a : Nat → Int32} {k : Nat} {x : Int32} (h : gv_P a) (hx : gv_px x) : gv_P (upd a k x) := by
  intro j
  by_cases e : j = k
  · subst e; rw [pk_us]; exact hx
  · rw [pk_un e]; exact h j
theorem gv_P_w {a : Nat → Int32} {g : Nat → Nat} {v : Nat → Int32} (h : gv_P a) : ∀ n, (∀ i, i < n → gv_px (v i)) → gv_P (gv_wr a g v n)
  | 0, _ => h
  | n + 1, hv => gv_P_u (gv_P_w h n (fun i hi => hv i (by omega))) (hv n (by omega))
/-- clamp -/
def gv_cp (v lo hi : Int32) : Int32 := if v < lo then lo else if hi < v then hi else v
def gv_ab (x : Int32) : Int32 := if x < 0 then -x else x
def gv_c7 (x : Int32) : Nat := (gv_cp x 0 7).toNatClampNeg
theorem gv_lt (x y : Int32) : x < y ↔ x.toInt < y.toInt := Int32.lt_iff_toInt_lt
theorem gv_le (x y : Int32) : x ≤ y ↔ x.toInt ≤ y.toInt := Int32.le_iff_toInt_le
theorem gv_i0 : (0 : Int32).toInt = 0 := by decide
theorem gv_i7 : (7 : Int32).toInt = 7 := by decide
theorem gv_i255 : (255 : Int32).toInt = 255 := by decide
theorem gv_cp_r {v lo hi : Int32} (h : lo.toInt ≤ hi.toInt) : lo.toInt ≤ (gv_cp v lo hi).toInt ∧ (gv_cp v lo hi).toInt ≤ hi.toInt := by
  unfold gv_cp
  by_cases a : v < lo
  · rw [if_pos a]; omega
  · rw [if_neg a]
    rw [gv_lt] at a
    by_cases b : hi < v
    · rw [if_pos b]; omega
    · rw [if_neg b]; rw [gv_lt] at b; omega
theorem gv_nI_of {x : Int32} (h : 0 ≤ x.toInt) : x = nI x.toNatClampNeg ∧ ((x.toNatClampNeg : Nat) : Int) = x.toInt ∧ x.toNatClampNeg < 2 ^ 31 := by
  obtain ⟨j, hj, rfl⟩ := nI_of (x := x) (by rw [gv_lt, gv_i0]; omega)
  rw [nI_clamp hj, nI_toInt hj]
  exact ⟨rfl, rfl, hj⟩
theorem gv_c7_e (x : Int32) : gv_cp x 0 7 = nI (gv_c7 x) ∧ gv_c7 x < 8 := by
  have h := gv_cp_r (v := x) (lo := 0) (hi := 7) (by decide)
  rw [gv_i0, gv_i7] at h
  obtain ⟨a, b, c⟩ := gv_nI_of h.1
  refine ⟨a, ?_⟩
  unfold gv_c7; omega
theorem gv_c255 (x : Int32) : gv_px (gv_cp x 0 255) := by
  have h := gv_cp_r (v := x) (lo := 0) (hi := 255) (by decide)
  rw [gv_i0, gv_i255] at h
  exact h
theorem gv_clo {v lo hi : Int32} (h : v < lo) : gv_cp v lo hi = lo := if_pos h
theorem gv_chi {v lo hi : Int32} (h : ¬ v < lo) (g : hi < v) : gv_cp v lo hi = hi := by unfold gv_cp; rw [if_neg h, if_pos g]
theorem gv_cmi {v lo hi : Int32} (h : ¬ v < lo) (g : ¬ hi < v) : gv_cp v lo hi = v := by unfold gv_cp; rw [if_neg h, if_neg g]
/-- the place of pixel t of block b in its frame -/
def gv_id (b t : Nat) : Nat := (4 * (b / 2) + t / 4) * 8 + (4 * (b % 2) + t % 4)
theorem gv_id_lt : ∀ b, b < 4 → ∀ t, t < 16 → gv_id b t < 64 := by decide +kernel
theorem gv_id_inj : ∀ b, b < 4 → ∀ t, t < 16 → ∀ s, s < 16 → gv_id b t = gv_id b s → t = s := by decide +kernel
theorem gv_id_blk : ∀ b, b < 4 → ∀ c, c < 4 → ∀ t, t < 16 → ∀ s, s < 16 → gv_id b t = gv_id c s → b = c := by decide +kernel
def gv_jb (j : Nat) : Nat := 2 * (j / 32) + j % 8 / 4
def gv_jt (j : Nat) : Nat := j / 8 % 4 * 4 + j % 4
theorem gv_id_all : ∀ j, j < 64 → gv_jb j < 4 ∧ gv_jt j < 16 ∧ gv_id (gv_jb j) (gv_jt j) = j := by decide +kernel
/-- the block of 16 pixels fetched at a vector -/
def gv_ft (R : Nat → Int32) (f b : Nat) (vx vy : Int32) (t : Nat) : Int32 := R (f * 64 + gv_c7 (nI (4 * (b / 2) + t / 4) + vy) * 8 + gv_c7 (nI (4 * (b % 2) + t % 4) + vx))
theorem gv_ft_c {R R' : Nat → Int32} {f b : Nat} {vx vy : Int32} (h : ∀ j, j < 64 → R (f * 64 + j) = R' (f * 64 + j)) (t : Nat) : gv_ft R f b vx vy t = gv_ft R' f b vx vy t := by
  unfold gv_ft
  have a := (gv_c7_e (nI (4 * (b / 2) + t / 4) + vy)).2
  have c := (gv_c7_e (nI (4 * (b % 2) + t % 4) + vx)).2
  rw [Nat.add_assoc]
  exact h _ (by omega)
theorem gv_ft_p {R : Nat → Int32} (h : gv_P R) (f b : Nat) (vx vy : Int32) (t : Nat) : gv_px (gv_ft R f b vx vy t) := h _
def gv_ct (inp : Nat → Int32) (f b : Nat) (P : Nat → Int32) : Int32 := gv_sm (fun t => gv_ab (inp (f * 64 + gv_id b t) - P t)) 16
def gv_h (r c : Nat) : Int32 := if r = 0 then 1 else if r = 1 then (if c < 2 then 1 else -1) else if r = 2 then (if c = 0 ∨ c = 3 then 1 else -1) else (if c = 0 ∨ c = 2 then 1 else -1)
theorem gv_h_sym : ∀ r, r < 4 → ∀ c, c < 4 → gv_h r c = gv_h c r := by decide +kernel
theorem gv_h_1 : ∀ r, r < 4 → ∀ c, c < 4 → gv_h r c = 1 ∨ gv_h r c = -1 := by decide +kernel
def gv_tr (F : Nat → Int32) (t : Nat) : Int32 := gv_sm (fun s => gv_h (t / 4) (s / 4) * F s * gv_h (t % 4) (s % 4)) 16
theorem gv_tr_c {F G : Nat → Int32} (h : ∀ s, s < 16 → F s = G s) (t : Nat) : gv_tr F t = gv_tr G t := gv_sm_c 16 (fun s hs => by rw [h s hs])
def gv_qt (q : Nat) (y : Int32) : Int32 := if y < 0 then -((gv_ab y + nI q / 2) / nI q) else (gv_ab y + nI q / 2) / nI q
def gv_rs (inp : Nat → Int32) (f b : Nat) (P : Nat → Int32) (s : Nat) : Int32 := inp (f * 64 + gv_id b s) - P s
def gv_lv (inp : Nat → Int32) (f b q : Nat) (P : Nat → Int32) (t : Nat) : Int32 := gv_qt q (gv_tr (gv_rs inp f b P) t)
def gv_rb (P L : Nat → Int32) (q t : Nat) : Int32 := gv_cp (P t + ((gv_tr (fun s => L s * nI q) t + 8) >>> ((4 : Int32) &&& 31))) 0 255
theorem gv_rb_p (P L : Nat → Int32) (q t : Nat) : gv_px (gv_rb P L q t) := gv_c255 _
theorem gv_rb_c {P P' L L' : Nat → Int32} (q : Nat) {t : Nat} (h : P t = P' t) (hL : ∀ s, s < 16 → L s = L' s) : gv_rb P L q t = gv_rb P' L' q t := by
  unfold gv_rb
  rw [h, gv_tr_c (fun s hs => by rw [hL s hs])]
def gv_nz (L : Nat → Int32) : Int32 := gv_sm (fun t => if L t = 0 then 0 else 1) 16
def gv_pr (R : Nat → Int32) (b m : Nat) (V : Nat → Int32) (past next t : Nat) : Int32 :=
  if m = 0 then 128 else if m = 1 then gv_ft R past b (V 0) (V 1) t else if m = 2 then gv_ft R next b (V 2) (V 3) t
  else (gv_ft R past b (V 0) (V 1) t + gv_ft R next b (V 2) (V 3) t + 1) >>> ((1 : Int32) &&& 31)
