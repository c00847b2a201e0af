/-! X: transform, two prints -/
theorem gv_tr_ij (F : gv_F) (u v : Nat) {s i j : Nat} (hv : v < 4) (hj : j < 4) (e : s = i * 4 + j) : gv_h u i * F s * gv_h v j = gv_h ((u * 4 + v) / 4) (s / 4) * F s * gv_h ((u * 4 + v) % 4) (s % 4) := by
  subst e
  rw [show (u * 4 + v) / 4 = u by omega, show (u * 4 + v) % 4 = v by omega, show (i * 4 + j) / 4 = i by omega, show (i * 4 + j) % 4 = j by omega]
def gv_tf (F : gv_F) (t s : Nat) : Int32 := gv_h (t / 4) (s / 4) * F s * gv_h (t % 4) (s % 4)
section
variable {qu rg bf ph fc dc oc wp rp oa na : Int32} {inp rec dcd typ ord mod vcs nzs str isd vct bwd prd res cof lev : Nat → Int32}
theorem gx_t29_residual {post : SX → Prop} {J2 J9 : Int32 → gv_F → gv_F → gv_F → gv_F → gv_F → gv_F → gv_F → gv_F → gv_F → gv_F → gv_F → gv_F → gv_F → gv_F → gv_F → gv_F →  Prop} {J20 : Int32 → Int32 → Prop} {u v i : Nat} (hu : u < 4) (hv : v < 4) (hi : i < 4)
    (h : J20 (gv_sm (gv_tf res (u * 4 + v)) ((i + 1) * 4)) (nI (i + 1))) :
    ∀ d j n, j + d = 4 → d < n → wX_transform__residual_coefficients_29 post J2 J9 J20 (nI u) (nI v) (nI i) qu rg bf ph fc dc oc wp rp oa na inp rec dcd typ ord mod vcs nzs str isd vct bwd prd res cof lev n (gv_sm (gv_tf res (u * 4 + v)) (i * 4 + j)) (nI j) := by
  intro d
  induction d with
  | zero =>
    intro j n hj hn
    obtain ⟨n, rfl⟩ : ∃ m, n = m + 1 := ⟨n - 1, by omega⟩
    obtain rfl : j = 4 := by omega
    rw [Nat.succ_mul] at h
    exact br_t (by decide) (nm_r (nI_1 i) h)
  | succ d ih =>
    intro j n hj hn
    obtain ⟨n, rfl⟩ : ∃ m, n = m + 1 := ⟨n - 1, by omega⟩
    refine br_f (nI_ge (b := 4) (by omega) (by decide)) (gx_sign hu hi ⟨?_, gx_sign hv (by omega) (nm_r (e' := gv_sm (gv_tf res (u * 4 + v)) (i * 4 + (j + 1))) ?_ (nm_r (nI_1 j) (ih (j + 1) n (by omega) (by omega))))⟩)
    · rw [gx_4]; exact vp_in_nI (by omega) (by decide)
    · rw [gx_4, nI_clamp (by omega), gv_tr_ij res u v hv (by omega) rfl]
      rfl
theorem gx_t20_residual {post : SX → Prop} {J2 J9 : Int32 → gv_F → gv_F → gv_F → gv_F → gv_F → gv_F → gv_F → gv_F → gv_F → gv_F → gv_F → gv_F → gv_F → gv_F → gv_F → gv_F →  Prop} {u v : Nat} (hu : u < 4) (hv : v < 4)
    (h : J9 (nI (v + 1)) inp rec dcd typ ord mod vcs nzs str isd vct bwd prd res (upd cof (u * 4 + v) (gv_tr res (u * 4 + v))) lev) :
    ∀ d i n, i + d = 4 → d < n → wX_transform__residual_coefficients_20 post J2 J9 (nI u) (nI v) qu rg bf ph fc dc oc wp rp oa na inp rec dcd typ ord mod vcs nzs str isd vct bwd prd res cof lev n (gv_sm (gv_tf res (u * 4 + v)) (i * 4)) (nI i) := by
  intro d
  induction d with
  | zero =>
    intro i n hi hn
    obtain ⟨n, rfl⟩ : ∃ m, n = m + 1 := ⟨n - 1, by omega⟩
    obtain rfl : i = 4 := by omega
    refine br_t (by decide) ⟨?_, nm_r (e' := upd cof (u * 4 + v) (gv_tr res (u * 4 + v))) ?_ (nm_r (nI_1 v) h)⟩
    · rw [gx_4]; exact vp_in_nI (by omega) (by decide)
    · rw [gx_4, nI_clamp (by omega)]
      rfl
  | succ d ih =>
    intro i n hi hn
    obtain ⟨n, rfl⟩ : ∃ m, n = m + 1 := ⟨n - 1, by omega⟩
    exact br_f (nI_ge (b := 4) (by omega) (by decide)) ⟨5, gx_t29_residual hu hv (by omega) (ih (i + 1) n (by omega) (by omega)) 4 0 5 rfl (by decide)⟩
theorem gx_t9_residual {post : SX → Prop} {J2 : Int32 → gv_F → gv_F → gv_F → gv_F → gv_F → gv_F → gv_F → gv_F → gv_F → gv_F → gv_F → gv_F → gv_F → gv_F → gv_F → gv_F →  Prop} {u : Nat} (hu : u < 4)
    (h : J2 (nI (u + 1)) inp rec dcd typ ord mod vcs nzs str isd vct bwd prd res (gv_wi cof (gv_tr res) ((u + 1) * 4)) lev) :
    ∀ d v n, v + d = 4 → d < n → wX_transform__residual_coefficients_9 post J2 (nI u) qu rg bf ph fc dc oc wp rp oa na n (nI v) inp rec dcd typ ord mod vcs nzs str isd vct bwd prd res (gv_wi cof (gv_tr res) (u * 4 + v)) lev := by
  intro d
  induction d with
  | zero =>
    intro v n hv hn
    obtain ⟨n, rfl⟩ : ∃ m, n = m + 1 := ⟨n - 1, by omega⟩
    obtain rfl : v = 4 := by omega
    rw [Nat.succ_mul] at h
    exact br_t (by decide) (nm_r (nI_1 u) h)
  | succ d ih =>
    intro v n hv hn
    obtain ⟨n, rfl⟩ : ∃ m, n = m + 1 := ⟨n - 1, by omega⟩
    exact br_f (nI_ge (b := 4) (by omega) (by decide)) ⟨5, gx_t20_residual hu (by omega) (ih (v + 1) n (by omega) (by omega)) 4 0 5 rfl (by decide)⟩
theorem gx_t2_residual {post : SX → Prop} (h : post (qu, rg, bf, ph, fc, dc, oc, wp, rp, oa, na, inp, rec, dcd, typ, ord, mod, vcs, nzs, str, isd, vct, bwd, prd, res, gv_wi cof (gv_tr res) 16, lev)) :
    ∀ d u n, u + d = 4 → d < n → wX_transform__residual_coefficients_2 post qu rg bf ph fc dc oc wp rp oa na n (nI u) inp rec dcd typ ord mod vcs nzs str isd vct bwd prd res (gv_wi cof (gv_tr res) (u * 4)) lev := by
  intro d
  induction d with
  | zero =>
    intro u n hu hn
    obtain ⟨n, rfl⟩ : ∃ m, n = m + 1 := ⟨n - 1, by omega⟩
    obtain rfl : u = 4 := by omega
    exact br_t (by decide) h
  | succ d ih =>
    intro u n hu hn
    obtain ⟨n, rfl⟩ : ∃ m, n = m + 1 := ⟨n - 1, by omega⟩
    exact br_f (nI_ge (b := 4) (by omega) (by decide)) ⟨5, gx_t9_residual (by omega) (ih (u + 1) n (by omega) (by omega)) 4 0 5 rfl (by decide)⟩
theorem gx_trans_residual {post : SX → Prop} (h : ∀ C : gv_F, (∀ t, t < 16 → C t = gv_tr res t) → post (qu, rg, bf, ph, fc, dc, oc, wp, rp, oa, na, inp, rec, dcd, typ, ord, mod, vcs, nzs, str, isd, vct, bwd, prd, res, C, lev)) : wpX_transform__residual_coefficients post (qu, rg, bf, ph, fc, dc, oc, wp, rp, oa, na, inp, rec, dcd, typ, ord, mod, vcs, nzs, str, isd, vct, bwd, prd, res, cof, lev) :=
  ⟨5, gx_t2_residual (h _ (fun t ht => gv_wi_h ht)) 4 0 5 rfl (by decide)⟩
theorem gx_t29_coefficients {post : SX → Prop} {J2 J9 : Int32 → gv_F → gv_F → gv_F → gv_F → gv_F → gv_F → gv_F → gv_F → gv_F → gv_F → gv_F → gv_F → gv_F → gv_F → gv_F → gv_F →  Prop} {J20 : Int32 → Int32 → Prop} {u v i : Nat} (hu : u < 4) (hv : v < 4) (hi : i < 4)
    (h : J20 (gv_sm (gv_tf cof (u * 4 + v)) ((i + 1) * 4)) (nI (i + 1))) :
    ∀ d j n, j + d = 4 → d < n → wX_transform__coefficients_residual_29 post J2 J9 J20 (nI u) (nI v) (nI i) qu rg bf ph fc dc oc wp rp oa na inp rec dcd typ ord mod vcs nzs str isd vct bwd prd res cof lev n (gv_sm (gv_tf cof (u * 4 + v)) (i * 4 + j)) (nI j) := by
  intro d
  induction d with
  | zero =>
    intro j n hj hn
    obtain ⟨n, rfl⟩ : ∃ m, n = m + 1 := ⟨n - 1, by omega⟩
    obtain rfl : j = 4 := by omega
    rw [Nat.succ_mul] at h
    exact br_t (by decide) (nm_r (nI_1 i) h)
  | succ d ih =>
    intro j n hj hn
    obtain ⟨n, rfl⟩ : ∃ m, n = m + 1 := ⟨n - 1, by omega⟩
    refine br_f (nI_ge (b := 4) (by omega) (by decide)) (gx_sign hu hi ⟨?_, gx_sign hv (by omega) (nm_r (e' := gv_sm (gv_tf cof (u * 4 + v)) (i * 4 + (j + 1))) ?_ (nm_r (nI_1 j) (ih (j + 1) n (by omega) (by omega))))⟩)
    · rw [gx_4]; exact vp_in_nI (by omega) (by decide)
    · rw [gx_4, nI_clamp (by omega), gv_tr_ij cof u v hv (by omega) rfl]
      rfl
theorem gx_t20_coefficients {post : SX → Prop} {J2 J9 : Int32 → gv_F → gv_F → gv_F → gv_F → gv_F → gv_F → gv_F → gv_F → gv_F → gv_F → gv_F → gv_F → gv_F → gv_F → gv_F → gv_F →  Prop} {u v : Nat} (hu : u < 4) (hv : v < 4)
    (h : J9 (nI (v + 1)) inp rec dcd typ ord mod vcs nzs str isd vct bwd prd (upd res (u * 4 + v) (gv_tr cof (u * 4 + v))) cof lev) :
    ∀ d i n, i + d = 4 → d < n → wX_transform__coefficients_residual_20 post J2 J9 (nI u) (nI v) qu rg bf ph fc dc oc wp rp oa na inp rec dcd typ ord mod vcs nzs str isd vct bwd prd res cof lev n (gv_sm (gv_tf cof (u * 4 + v)) (i * 4)) (nI i) := by
  intro d
  induction d with
  | zero =>
    intro i n hi hn
    obtain ⟨n, rfl⟩ : ∃ m, n = m + 1 := ⟨n - 1, by omega⟩
    obtain rfl : i = 4 := by omega
    refine br_t (by decide) ⟨?_, nm_r (e' := upd res (u * 4 + v) (gv_tr cof (u * 4 + v))) ?_ (nm_r (nI_1 v) h)⟩
    · rw [gx_4]; exact vp_in_nI (by omega) (by decide)
    · rw [gx_4, nI_clamp (by omega)]
      rfl
  | succ d ih =>
    intro i n hi hn
    obtain ⟨n, rfl⟩ : ∃ m, n = m + 1 := ⟨n - 1, by omega⟩
    exact br_f (nI_ge (b := 4) (by omega) (by decide)) ⟨5, gx_t29_coefficients hu hv (by omega) (ih (i + 1) n (by omega) (by omega)) 4 0 5 rfl (by decide)⟩
theorem gx_t9_coefficients {post : SX → Prop} {J2 : Int32 → gv_F → gv_F → gv_F → gv_F → gv_F → gv_F → gv_F → gv_F → gv_F → gv_F → gv_F → gv_F → gv_F → gv_F → gv_F → gv_F →  Prop} {u : Nat} (hu : u < 4)
    (h : J2 (nI (u + 1)) inp rec dcd typ ord mod vcs nzs str isd vct bwd prd (gv_wi res (gv_tr cof) ((u + 1) * 4)) cof lev) :
    ∀ d v n, v + d = 4 → d < n → wX_transform__coefficients_residual_9 post J2 (nI u) qu rg bf ph fc dc oc wp rp oa na n (nI v) inp rec dcd typ ord mod vcs nzs str isd vct bwd prd (gv_wi res (gv_tr cof) (u * 4 + v)) cof lev := by
  intro d
  induction d with
  | zero =>
    intro v n hv hn
    obtain ⟨n, rfl⟩ : ∃ m, n = m + 1 := ⟨n - 1, by omega⟩
    obtain rfl : v = 4 := by omega
    rw [Nat.succ_mul] at h
    exact br_t (by decide) (nm_r (nI_1 u) h)
  | succ d ih =>
    intro v n hv hn
    obtain ⟨n, rfl⟩ : ∃ m, n = m + 1 := ⟨n - 1, by omega⟩
    exact br_f (nI_ge (b := 4) (by omega) (by decide)) ⟨5, gx_t20_coefficients hu (by omega) (ih (v + 1) n (by omega) (by omega)) 4 0 5 rfl (by decide)⟩
theorem gx_t2_coefficients {post : SX → Prop} (h : post (qu, rg, bf, ph, fc, dc, oc, wp, rp, oa, na, inp, rec, dcd, typ, ord, mod, vcs, nzs, str, isd, vct, bwd, prd, gv_wi res (gv_tr cof) 16, cof, lev)) :
    ∀ d u n, u + d = 4 → d < n → wX_transform__coefficients_residual_2 post qu rg bf ph fc dc oc wp rp oa na n (nI u) inp rec dcd typ ord mod vcs nzs str isd vct bwd prd (gv_wi res (gv_tr cof) (u * 4)) cof lev := by
  intro d
  induction d with
  | zero =>
    intro u n hu hn
    obtain ⟨n, rfl⟩ : ∃ m, n = m + 1 := ⟨n - 1, by omega⟩
    obtain rfl : u = 4 := by omega
    exact br_t (by decide) h
  | succ d ih =>
    intro u n hu hn
    obtain ⟨n, rfl⟩ : ∃ m, n = m + 1 := ⟨n - 1, by omega⟩
    exact br_f (nI_ge (b := 4) (by omega) (by decide)) ⟨5, gx_t9_coefficients (by omega) (ih (u + 1) n (by omega) (by omega)) 4 0 5 rfl (by decide)⟩
theorem gx_trans_coefficients {post : SX → Prop} (h : ∀ C : gv_F, (∀ t, t < 16 → C t = gv_tr cof t) → post (qu, rg, bf, ph, fc, dc, oc, wp, rp, oa, na, inp, rec, dcd, typ, ord, mod, vcs, nzs, str, isd, vct, bwd, prd, C, cof, lev)) : wpX_transform__coefficients_residual post (qu, rg, bf, ph, fc, dc, oc, wp, rp, oa, na, inp, rec, dcd, typ, ord, mod, vcs, nzs, str, isd, vct, bwd, prd, res, cof, lev) :=
  ⟨5, gx_t2_coefficients (h _ (fun t ht => gv_wi_h ht)) 4 0 5 rfl (by decide)⟩
end
