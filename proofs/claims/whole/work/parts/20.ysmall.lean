/-! Y: the small methods -/
section
variable {yq yr yb yn yp yd yx yy : Int32} {inq req yo ymo yve ynz ypp ypd yzc : Nat → Int32}
theorem gy_clamp {post : Int32 → Prop} {v lo hi : Int32} (h : post (gv_cp v lo hi)) : wpY_clamp post (yq, yr, yb, yn, yp, yd, yx, yy, inq, req, yo, ymo, yve, ynz, ypp, ypd, yzc) v lo hi := by
  refine br_c (fun a => br_c (fun b => ?_) (fun b => ?_)) (fun a => ?_)
  · rw [gv_cmi (Int32.not_lt.mpr a) (Int32.not_lt.mpr b)] at h; exact h
  · rw [gv_chi (Int32.not_lt.mpr a) (Int32.not_le.mp b)] at h; exact h
  · rw [gv_clo (Int32.not_le.mp a)] at h; exact h
theorem gy_cl {post : Int32 → Prop} {v w : Int32} (e : v = w) (h : post (nI (gv_c7 w))) : wpY_cl post (yq, yr, yb, yn, yp, yd, yx, yy, inq, req, yo, ymo, yve, ynz, ypp, ypd, yzc) v := by
  subst e
  refine gy_clamp (yq := yq) (yr := yr) (yb := yb) (yn := yn) (yp := yp) (yd := yd) (yx := yx) (yy := yy) (inq := inq) (req := req) (yo := yo) (ymo := ymo) (yve := yve) (ynz := ynz) (ypp := ypp) (ypd := ypd) (yzc := yzc) (post := fun r => post r) ?_
  rw [(gv_c7_e v).1]
  exact h
theorem gy_c255 {post : Int32 → Prop} {v : Int32} (h : post (gv_cp v 0 255)) : wpY_c255 post (yq, yr, yb, yn, yp, yd, yx, yy, inq, req, yo, ymo, yve, ynz, ypp, ypd, yzc) v := gy_clamp (yq := yq) (yr := yr) (yb := yb) (yn := yn) (yp := yp) (yd := yd) (yx := yx) (yy := yy) (inq := inq) (req := req) (yo := yo) (ymo := ymo) (yve := yve) (ynz := ynz) (ypp := ypp) (ypd := ypd) (yzc := yzc) (post := fun r => post r) h
theorem gy_abs {post : Int32 → Prop} {v : Int32} (h : post (gv_ab v)) : wpY_abs post (yq, yr, yb, yn, yp, yd, yx, yy, inq, req, yo, ymo, yve, ynz, ypp, ypd, yzc) v := by
  unfold gv_ab at h
  refine br_c (fun a => ?_) (fun a => ?_)
  · rw [if_neg (Int32.not_lt.mpr a)] at h; exact h
  · rw [if_pos (Int32.not_le.mp a)] at h; exact h
theorem gy_can {post : Int32 → Prop} {n : Nat} (hn : n < 2 ^ 31) (h1 : yp = 0 → n < 8 → post 1) (h0 : (yp ≠ 0 ∨ 8 ≤ n) → post 0) : wpY_canAppend post (yq, yr, yb, nI n, yp, yd, yx, yy, inq, req, yo, ymo, yve, ynz, ypp, ypd, yzc) := by
  refine br_c (fun a => ?_) (fun a => h0 (Or.inl a))
  exact pk_le 8 n (fun b => h0 (Or.inr b)) (fun b => h1 a b)
theorem gy_ix : ∀ b, b < 4 → ∀ t, t < 16 → ((((4 * (nI b / 2)) + (nI t / 4)) * 8) + (4 * (nI b - nI b / 2 * 2))) + (nI t - nI t / 4 * 4) = nI (gv_id b t) := by decide +kernel
theorem gy_idx {post : Int32 → Prop} {b t : Nat} (hb : b < 4) (ht : t < 16) (h : post (nI (gv_id b t))) : wpY_idx post (yq, yr, yb, yn, yp, yd, yx, yy, inq, req, yo, ymo, yve, ynz, ypp, ypd, yzc) (nI b) (nI t) := by
  refine ⟨by decide, by decide, by decide, by decide, ?_⟩
  rw [gy_ix b hb t ht]
  exact h
theorem gy_hmt {post : Int32 → Prop} {r c : Nat} (hr : r < 4) (hc : c < 4) (h : post (gv_h r c)) : wpY_hm post (yq, yr, yb, yn, yp, yd, yx, yy, inq, req, yo, ymo, yve, ynz, ypp, ypd, yzc) (nI r) (nI c) := by
  rcases (by omega : r = 0 ∨ r = 1 ∨ r = 2 ∨ r = 3) with rfl | rfl | rfl | rfl <;> rcases (by omega : c = 0 ∨ c = 1 ∨ c = 2 ∨ c = 3) with rfl | rfl | rfl | rfl
  · exact br_t rfl h
  · exact br_t rfl h
  · exact br_t rfl h
  · exact br_t rfl h
  · exact br_f (by decide) (br_t rfl (br_f (by decide) h))
  · exact br_f (by decide) (br_t rfl (br_f (by decide) h))
  · exact br_f (by decide) (br_t rfl (br_t (by decide) h))
  · exact br_f (by decide) (br_t rfl (br_t (by decide) h))
  · exact br_f (by decide) (br_f (by decide) (br_t rfl (br_t rfl h)))
  · exact br_f (by decide) (br_f (by decide) (br_t rfl (br_f (by decide) (br_f (by decide) h))))
  · exact br_f (by decide) (br_f (by decide) (br_t rfl (br_f (by decide) (br_f (by decide) h))))
  · exact br_f (by decide) (br_f (by decide) (br_t rfl (br_f (by decide) (br_t rfl h))))
  · exact br_f (by decide) (br_f (by decide) (br_f (by decide) (br_t rfl h)))
  · exact br_f (by decide) (br_f (by decide) (br_f (by decide) (br_f (by decide) (br_f (by decide) h))))
  · exact br_f (by decide) (br_f (by decide) (br_f (by decide) (br_f (by decide) (br_t rfl h))))
  · exact br_f (by decide) (br_f (by decide) (br_f (by decide) (br_f (by decide) (br_f (by decide) h))))
theorem gy_hm {post : Int32 → Prop} {r c : Nat} {x y : Int32} (ex : x = nI r) (ey : y = nI c) (hr : r < 4) (hc : c < 4) (h : post (gv_h r c)) : wpY_hm post (yq, yr, yb, yn, yp, yd, yx, yy, inq, req, yo, ymo, yve, ynz, ypp, ypd, yzc) x y := by
  subst ex ey
  exact gy_hmt hr hc h
theorem gy_type {post : Int32 → Prop} {mb n k : Nat} (hm : mb < 4) (hn : n < 9) (h1 : 1 ≤ n) (hk : k < 8) (h : post (nI (gv_ty mb n k))) : wpY_typeOf post (yq, yr, nI mb, nI n, yp, yd, yx, yy, inq, req, yo, ymo, yve, ynz, ypp, ypd, yzc) (nI k) := by
  have er := gv_rem (i := k) (mb := mb) hk hm
  have e2 : nI n - 1 = nI (n - 1) := gv_m1 h1
  by_cases c0 : k = 0
  · subst c0; exact br_t rfl h
  refine br_f (nI_ne0 (by omega) (by omega)) ⟨by rw [nI_1]; exact nI_ne0 (by omega) (by omega), ?_⟩
  by_cases c1 : k % (mb + 1) = 0
  · rw [gv_ty_a c0 (Or.inl c1)] at h
    exact br_t (by rw [er, c1]; rfl) h
  refine br_f (by rw [er]; exact nI_ne0 (by omega) (Nat.lt_of_le_of_lt (Nat.mod_le _ _) (by omega))) ?_
  by_cases c2 : k = n - 1
  · rw [gv_ty_a c0 (Or.inr c2)] at h
    exact br_t (by rw [e2, c2]) h
  · rw [gv_ty_b c0 (by omega)] at h
    exact br_f (by rw [e2, nI_eq (by omega) (by omega)]; exact c2) h
theorem gy_pa4 {post : Int32 → Prop} {mb n : Nat} (hm : mb < 4) (hn : n < 9) (h1 : 1 ≤ n) :
    ∀ k m, k ≤ 8 → k < m → post (nI (gv_pa mb n k)) → wY_prevAnchor_4 post yq yr (nI mb) (nI n) yp yd yx yy inq req yo ymo yve ynz ypp ypd yzc m (nI k - 1) := by
  intro k
  induction k with
  | zero =>
    intro m hk hm' h
    obtain ⟨m, rfl⟩ : ∃ j, m = j + 1 := ⟨m - 1, by omega⟩
    exact br_t (by decide) h
  | succ k ih =>
    intro m hk hm' h
    obtain ⟨m, rfl⟩ : ∃ j, m = j + 1 := ⟨m - 1, by omega⟩
    rw [nI_pred]
    rw [show gv_pa mb n (k + 1) = if gv_ty mb n k = 2 then gv_pa mb n k else k from rfl] at h
    refine br_f (nI_pos (by omega)) (gy_type hm hn h1 (by omega) (br_c (fun c => nm_r (Int32.sub_eq_add_neg _ _).symm ?_) (fun c => ?_)))
    · rw [if_pos (gv_ty2.mp c)] at h
      exact ih m (by omega) (by omega) h
    · rw [if_neg (fun z => c (gv_ty2.mpr z))] at h
      exact h
theorem gy_prev {post : Int32 → Prop} {mb n k : Nat} (hm : mb < 4) (hn : n < 9) (h1 : 1 ≤ n) (hk : k < n) (h : post (nI (gv_pa mb n k))) : wpY_prevAnchor post (yq, yr, nI mb, nI n, yp, yd, yx, yy, inq, req, yo, ymo, yve, ynz, ypp, ypd, yzc) (nI k) :=
  nm_e ⟨k + 1, gy_pa4 hm hn h1 k (k + 1) (by omega) (by omega) h⟩
theorem gy_na4 {post : Int32 → Prop} {mb n : Nat} (hm : mb < 4) (hn : n < 9) (h1 : 1 ≤ n) :
    ∀ d a m, a + d = n → d < m → post (nI (gv_nx mb n d a)) → wY_nextAnchor_4 post yq yr (nI mb) (nI n) yp yd yx yy inq req yo ymo yve ynz ypp ypd yzc m (nI a) := by
  intro d
  induction d with
  | zero =>
    intro a m ha hm' h
    obtain ⟨m, rfl⟩ : ∃ j, m = j + 1 := ⟨m - 1, by omega⟩
    refine br_t (nI_le (by omega) (by omega)) ?_
    rw [gv_m1 h1]
    exact h
  | succ d ih =>
    intro a m ha hm' h
    obtain ⟨m, rfl⟩ : ∃ j, m = j + 1 := ⟨m - 1, by omega⟩
    rw [show gv_nx mb n (d + 1) a = if gv_ty mb n a = 2 then gv_nx mb n d (a + 1) else a from rfl] at h
    refine br_f (nI_ge (by omega) (by omega)) (gy_type hm hn h1 (by omega) (br_c (fun c => nm_r (nI_1 a) ?_) (fun c => ?_)))
    · rw [if_pos (gv_ty2.mp c)] at h
      exact ih (a + 1) m (by omega) (by omega) h
    · rw [if_neg (fun z => c (gv_ty2.mpr z))] at h
      exact h
theorem gy_next {post : Int32 → Prop} {mb n k : Nat} (hm : mb < 4) (hn : n < 9) (h1 : 1 ≤ n) (hk : k < n) (h : post (nI (gv_na mb n k))) : wpY_nextAnchor post (yq, yr, nI mb, nI n, yp, yd, yx, yy, inq, req, yo, ymo, yve, ynz, ypp, ypd, yzc) (nI k) :=
  nm_r (nI_1 k) ⟨n + 1, gy_na4 hm hn h1 (n - (k + 1)) (k + 1) (n + 1) (by omega) (by omega) h⟩
end
