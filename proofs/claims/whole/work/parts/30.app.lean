/-! the appends -/
theorem gv_xy8 : ∀ t, t < 64 → nI t - nI t / 8 * 8 = nI (t % 8) ∧ nI t / 8 = nI (t / 8) := by decide +kernel
def gv_gr (v1 v2 v3 : Int32) (t : Nat) : Int32 := gv_cp ((v1 + v2 * nI (t % 8)) + v3 * nI (t / 8)) 0 255
def gv_tx (s : Int32) (t : Nat) : Int32 := ((gv_lc s (t + 1)).toUInt32 >>> ((24 : Int32).toUInt32 &&& Int32.toUInt32 31)).toInt32
def gv_mv (inp : gv_F) (s : Nat) (dx dy dl : Int32) (t : Nat) : Int32 := gv_cp (inp (s * 64 + gv_c7 (nI (t / 8) - dy) * 8 + gv_c7 (nI (t % 8) - dx)) + dl) 0 255
def gv_ap (inp : gv_F) (n : Nat) (v : gv_F) : Nat → gv_F := gv_wr inp (fun t => n * 64 + t) v
theorem gv_ap_s (inp : gv_F) (n : Nat) (v : gv_F) (t : Nat) : upd (gv_ap inp n v t) (n * 64 + t) (v t) = gv_ap inp n v (t + 1) := rfl
theorem gv_tx_p (s : Int32) (t : Nat) : gv_px (gv_tx s t) := by
  unfold gv_tx gv_px
  generalize gv_lc s (t + 1) = x
  have h := pk_ushr x 24 24 (by decide)
  generalize (x.toUInt32 >>> ((24 : Int32).toUInt32 &&& Int32.toUInt32 31)).toInt32 = y at h
  have hx := x.toBitVec.isLt
  have h2 : y.toBitVec.toNat < 256 := by omega
  have e : y.toInt = y.toBitVec.toInt := rfl
  rw [e, BitVec.toInt_eq_toNat_of_lt (by omega)]
  omega
theorem gv_ix8 {a y x : Nat} : (nI a + nI y * 8) + nI x = nI (a + (y * 8 + x)) := by
  rw [show (8 : Int32) = nI 8 from rfl, pk_mul, nI_add, nI_add, Nat.add_assoc]
theorem gv_64 {a : Nat} : nI a * 64 = nI (a * 64) := by rw [show (64 : Int32) = nI 64 from rfl, pk_mul]
section
variable {qu rg bf ph fc dc oc wp rp oa na : Int32} {inp rec dcd typ ord mod vcs nzs str isd vct bwd prd res cof lev : Nat → Int32}
variable {N : Nat}
theorem gx_g31 {post : Int32 → SX → Prop} {JJ : Int32 → gv_F → gv_F → gv_F → gv_F → gv_F → gv_F → gv_F → gv_F → gv_F → gv_F → gv_F → gv_F → gv_F → gv_F → gv_F → gv_F →  Prop} {v1 v2 v3 : Int32} {i : Nat} (hN : N < 8) (hi : i < 8) (h : JJ (nI (i + 1)) (gv_ap inp N (gv_gr v1 v2 v3) ((i + 1) * 8)) rec dcd typ ord mod vcs nzs str isd vct bwd prd res cof lev) :
    ∀ d j n, j + d = 8 → d < n → wX_appendGradient_31 post JJ v1 v2 v3 (nI (N * 64)) (nI i) qu rg bf ph fc dc oc wp rp oa na n (nI j) (gv_ap inp N (gv_gr v1 v2 v3) (i * 8 + j)) rec dcd typ ord mod vcs nzs str isd vct bwd prd res cof lev := by
  intro d
  induction d with
  | zero =>
    intro j n hj hn
    obtain ⟨n, rfl⟩ : ∃ m, n = m + 1 := ⟨n - 1, by omega⟩
    obtain rfl : j = 8 := by omega
    rw [Nat.succ_mul] at h
    exact br_t (by decide) (nm_r (nI_1 i) h)
  | succ d ih =>
    intro j n hj hn
    obtain ⟨n, rfl⟩ : ∃ m, n = m + 1 := ⟨n - 1, by omega⟩
    refine br_f (nI_ge (b := 8) (by omega) (by decide)) (gx_clamp ⟨?_, nm_r (e' := gv_ap inp N (gv_gr v1 v2 v3) (i * 8 + (j + 1))) ?_ (nm_r (nI_1 j) (ih (j + 1) n (by omega) (by omega)))⟩)
    · rw [gv_ix8]; exact vp_in_nI (by omega) (by decide)
    · rw [gv_ix8, nI_clamp (by omega)]
      show _ = upd (gv_ap inp N (gv_gr v1 v2 v3) (i * 8 + j)) (N * 64 + (i * 8 + j)) (gv_gr v1 v2 v3 (i * 8 + j))
      unfold gv_gr
      rw [show (i * 8 + j) % 8 = j by omega, show (i * 8 + j) / 8 = i by omega]
theorem gx_g21 {post : Int32 → SX → Prop} {v1 v2 v3 : Int32} (hN : N < 8) (h : post (nI N) (qu, rg, bf, ph, nI (N + 1), dc, oc, wp, rp, oa, na, gv_ap inp N (gv_gr v1 v2 v3) 64, rec, dcd, typ, ord, mod, vcs, nzs, str, isd, vct, bwd, prd, res, cof, lev)) :
    ∀ d i n, i + d = 8 → d < n → wX_appendGradient_21 post v1 v2 v3 (nI (N * 64)) qu rg bf ph (nI N) dc oc wp rp oa na n (nI i) (gv_ap inp N (gv_gr v1 v2 v3) (i * 8)) rec dcd typ ord mod vcs nzs str isd vct bwd prd res cof lev := by
  intro d
  induction d with
  | zero =>
    intro i n hi hn
    obtain ⟨n, rfl⟩ : ∃ m, n = m + 1 := ⟨n - 1, by omega⟩
    obtain rfl : i = 8 := by omega
    exact br_t (by decide) (nm_r (nI_1 N) h)
  | succ d ih =>
    intro i n hi hn
    obtain ⟨n, rfl⟩ : ∃ m, n = m + 1 := ⟨n - 1, by omega⟩
    exact br_f (nI_ge (b := 8) (by omega) (by decide)) ⟨9, gx_g31 hN (by omega) (ih (i + 1) n (by omega) (by omega)) 8 0 9 rfl (by decide)⟩
theorem gx_grad {post : Int32 → SX → Prop} {v1 v2 v3 : Int32} (hN : N < 9) (h1 : ph = 0 → N < 8 → post (nI N) (qu, rg, bf, ph, nI (N + 1), dc, oc, wp, rp, oa, na, gv_ap inp N (gv_gr v1 v2 v3) 64, rec, dcd, typ, ord, mod, vcs, nzs, str, isd, vct, bwd, prd, res, cof, lev)) (h0 : (ph ≠ 0 ∨ 8 ≤ N) → post (-1) (qu, rg, bf, ph, nI N, dc, oc, wp, rp, oa, na, inp, rec, dcd, typ, ord, mod, vcs, nzs, str, isd, vct, bwd, prd, res, cof, lev)) : wpX_appendGradient post (qu, rg, bf, ph, nI N, dc, oc, wp, rp, oa, na, inp, rec, dcd, typ, ord, mod, vcs, nzs, str, isd, vct, bwd, prd, res, cof, lev) v1 v2 v3 := by
  unfold wpX_appendGradient
  dsimp only
  exact gx_can (by omega) (fun a b => br_f (by decide) (nm_r gv_64 ⟨9, gx_g21 b (h1 a b) 8 0 9 rfl (by decide)⟩)) (fun a => br_t rfl (h0 a))
theorem gx_t22 {post : Int32 → SX → Prop} {sd : Int32} (hN : N < 8) (h : post (nI N) (qu, rg, bf, ph, nI (N + 1), dc, oc, wp, rp, oa, na, gv_ap inp N (gv_tx sd) 64, rec, dcd, typ, ord, mod, vcs, nzs, str, isd, vct, bwd, prd, res, cof, lev)) :
    ∀ d t n, t + d = 64 → d < n → wX_appendTexture_22 post (nI (N * 64)) qu rg bf ph (nI N) dc oc wp rp oa na n (gv_lc sd t) (nI t) (gv_ap inp N (gv_tx sd) t) rec dcd typ ord mod vcs nzs str isd vct bwd prd res cof lev := by
  intro d
  induction d with
  | zero =>
    intro t n ht hn
    obtain ⟨n, rfl⟩ : ∃ m, n = m + 1 := ⟨n - 1, by omega⟩
    obtain rfl : t = 64 := by omega
    exact br_t (by decide) (nm_r (nI_1 N) h)
  | succ d ih =>
    intro t n ht hn
    obtain ⟨n, rfl⟩ : ∃ m, n = m + 1 := ⟨n - 1, by omega⟩
    refine br_f (nI_ge (b := 64) (by omega) (by decide)) (nm_r (e' := gv_lc sd (t + 1)) rfl ⟨?_, nm_r (e' := gv_ap inp N (gv_tx sd) (t + 1)) ?_ (nm_r (nI_1 t) (ih (t + 1) n (by omega) (by omega)))⟩)
    · rw [nI_add]; exact vp_in_nI (by omega) (by decide)
    · rw [nI_add, nI_clamp (by omega)]
      rfl
theorem gx_text {post : Int32 → SX → Prop} {sd : Int32} (hN : N < 9) (h1 : ph = 0 → N < 8 → post (nI N) (qu, rg, bf, ph, nI (N + 1), dc, oc, wp, rp, oa, na, gv_ap inp N (gv_tx sd) 64, rec, dcd, typ, ord, mod, vcs, nzs, str, isd, vct, bwd, prd, res, cof, lev)) (h0 : (ph ≠ 0 ∨ 8 ≤ N) → post (-1) (qu, rg, bf, ph, nI N, dc, oc, wp, rp, oa, na, inp, rec, dcd, typ, ord, mod, vcs, nzs, str, isd, vct, bwd, prd, res, cof, lev)) : wpX_appendTexture post (qu, rg, bf, ph, nI N, dc, oc, wp, rp, oa, na, inp, rec, dcd, typ, ord, mod, vcs, nzs, str, isd, vct, bwd, prd, res, cof, lev) sd := by
  unfold wpX_appendTexture
  dsimp only
  exact gx_can (by omega) (fun a b => br_f (by decide) (nm_r gv_64 ⟨65, gx_t22 b (h1 a b) 64 0 65 rfl (by decide)⟩)) (fun a => br_t rfl (h0 a))
theorem gx_m60 {post : Int32 → SX → Prop} {JJ : Int32 → gv_F → gv_F → gv_F → gv_F → gv_F → gv_F → gv_F → gv_F → gv_F → gv_F → gv_F → gv_F → gv_F → gv_F → gv_F → gv_F →  Prop} {dx dy dl : Int32} {s i : Nat} (hN : N < 8) (hs : s < N) (hi : i < 8) (h : JJ (nI (i + 1)) (gv_ap inp N (gv_mv inp s dx dy dl) ((i + 1) * 8)) rec dcd typ ord mod vcs nzs str isd vct bwd prd res cof lev) :
    ∀ d j n, j + d = 8 → d < n → wX_appendMoved_60 post JJ dx dy dl (nI (N * 64)) (nI (s * 64)) (nI i) (nI (gv_c7 (nI i - dy))) qu rg bf ph fc dc oc wp rp oa na n (nI j) (gv_ap inp N (gv_mv inp s dx dy dl) (i * 8 + j)) rec dcd typ ord mod vcs nzs str isd vct bwd prd res cof lev := by
  intro d
  induction d with
  | zero =>
    intro j n hj hn
    obtain ⟨n, rfl⟩ : ∃ m, n = m + 1 := ⟨n - 1, by omega⟩
    obtain rfl : j = 8 := by omega
    rw [Nat.succ_mul] at h
    exact br_t (by decide) (nm_r (nI_1 i) h)
  | succ d ih =>
    intro j n hj hn
    obtain ⟨n, rfl⟩ : ∃ m, n = m + 1 := ⟨n - 1, by omega⟩
    have b1 := (gv_c7_e (nI i - dy)).2
    have b2 := (gv_c7_e (nI j - dx)).2
    refine br_f (nI_ge (b := 8) (by omega) (by decide)) (gx_c7 rfl ⟨?_, nm_r (e' := inp (s * 64 + gv_c7 (nI i - dy) * 8 + gv_c7 (nI j - dx)) + dl) ?_ (gx_clamp ⟨?_, nm_r (e' := gv_ap inp N (gv_mv inp s dx dy dl) (i * 8 + (j + 1))) ?_ (nm_r (nI_1 j) (ih (j + 1) n (by omega) (by omega)))⟩)⟩)
    · rw [gv_ix8]; exact vp_in_nI (by omega) (by decide)
    · rw [gv_ix8, nI_clamp (by omega), ← Nat.add_assoc]
      unfold gv_ap
      rw [gv_wr_m _ (fun k _ => by omega)]
    · rw [gv_ix8]; exact vp_in_nI (by omega) (by decide)
    · rw [gv_ix8, nI_clamp (by omega)]
      show _ = upd (gv_ap inp N (gv_mv inp s dx dy dl) (i * 8 + j)) (N * 64 + (i * 8 + j)) (gv_cp (inp (s * 64 + gv_c7 (nI ((i * 8 + j) / 8) - dy) * 8 + gv_c7 (nI ((i * 8 + j) % 8) - dx)) + dl) 0 255)
      rw [show (i * 8 + j) % 8 = j by omega, show (i * 8 + j) / 8 = i by omega]
theorem gx_m38 {post : Int32 → SX → Prop} {dx dy dl : Int32} {s : Nat} (hN : N < 8) (hs : s < N) (h : post (nI N) (qu, rg, bf, ph, nI (N + 1), dc, oc, wp, rp, oa, na, gv_ap inp N (gv_mv inp s dx dy dl) 64, rec, dcd, typ, ord, mod, vcs, nzs, str, isd, vct, bwd, prd, res, cof, lev)) :
    ∀ d i n, i + d = 8 → d < n → wX_appendMoved_38 post dx dy dl (nI (N * 64)) (nI (s * 64)) qu rg bf ph (nI N) dc oc wp rp oa na n (nI i) (gv_ap inp N (gv_mv inp s dx dy dl) (i * 8)) rec dcd typ ord mod vcs nzs str isd vct bwd prd res cof lev := by
  intro d
  induction d with
  | zero =>
    intro i n hi hn
    obtain ⟨n, rfl⟩ : ∃ m, n = m + 1 := ⟨n - 1, by omega⟩
    obtain rfl : i = 8 := by omega
    exact br_t (by decide) (nm_r (nI_1 N) h)
  | succ d ih =>
    intro i n hi hn
    obtain ⟨n, rfl⟩ : ∃ m, n = m + 1 := ⟨n - 1, by omega⟩
    exact br_f (nI_ge (b := 8) (by omega) (by decide)) (gx_c7 rfl ⟨9, gx_m60 hN hs (by omega) (ih (i + 1) n (by omega) (by omega)) 8 0 9 rfl (by decide)⟩)
theorem gx_move {post : Int32 → SX → Prop} {sr dx dy dl : Int32} (hN : N < 9) (h1 : ∀ s, ph = 0 → N < 8 → s < N → sr = nI s → post (nI N) (qu, rg, bf, ph, nI (N + 1), dc, oc, wp, rp, oa, na, gv_ap inp N (gv_mv inp s dx dy dl) 64, rec, dcd, typ, ord, mod, vcs, nzs, str, isd, vct, bwd, prd, res, cof, lev)) (h0 : (ph ≠ 0 ∨ 8 ≤ N ∨ sr < 0 ∨ nI N ≤ sr) → post (-1) (qu, rg, bf, ph, nI N, dc, oc, wp, rp, oa, na, inp, rec, dcd, typ, ord, mod, vcs, nzs, str, isd, vct, bwd, prd, res, cof, lev)) : wpX_appendMoved post (qu, rg, bf, ph, nI N, dc, oc, wp, rp, oa, na, inp, rec, dcd, typ, ord, mod, vcs, nzs, str, isd, vct, bwd, prd, res, cof, lev) sr dx dy dl := by
  unfold wpX_appendMoved
  dsimp only
  exact gx_can (by omega) (fun a b => br_f (by decide) (gx_below (by omega) (fun s hs es => br_f (by decide) (nm_r gv_64 (nm_r (e' := nI (s * 64)) (by rw [es, gv_64]) ⟨9, gx_m38 b hs (h1 s a b hs es) 8 0 9 rfl (by decide)⟩))) (fun z => br_t rfl (h0 (Or.inr (Or.inr z)))))) (fun a => br_t rfl (h0 (a.elim Or.inl (fun z => Or.inr (Or.inl z)))))
end
section
variable {yq yr yb yn yp yd yx yy : Int32} {inq req yo ymo yve ynz ypp ypd yzc : Nat → Int32}
variable {N : Nat}
theorem gv_e64 {n t : Nat} : nI n * 64 + nI t = nI (n * 64 + t) := by rw [gv_64, nI_add]
theorem gy_g12 {post : Int32 → SY → Prop} {v1 v2 v3 : Int32} (hN : N < 8) (h : post (nI N) (yq, yr, yb, nI (N + 1), yp, yd, yx, yy, gv_ap inq N (gv_gr v1 v2 v3) 64, req, yo, ymo, yve, ynz, ypp, ypd, yzc)) :
    ∀ d t n, t + d = 64 → d < n → wY_appendGradient_12 post v1 v2 v3 yq yr yb (nI N) yp yd yx yy n (nI t) (gv_ap inq N (gv_gr v1 v2 v3) t) req yo ymo yve ynz ypp ypd yzc := by
  intro d
  induction d with
  | zero =>
    intro t n ht hn
    obtain ⟨n, rfl⟩ : ∃ m, n = m + 1 := ⟨n - 1, by omega⟩
    obtain rfl : t = 64 := by omega
    refine br_t (by decide) (nm_r (nI_1 N) ?_)
    rw [nI_pred]
    exact h
  | succ d ih =>
    intro t n ht hn
    obtain ⟨n, rfl⟩ : ∃ m, n = m + 1 := ⟨n - 1, by omega⟩
    obtain ⟨e1, e2⟩ := gv_xy8 t (by omega)
    refine br_f (nI_ge (b := 64) (by omega) (by decide)) ⟨by decide, by decide, gy_c255 ⟨?_, nm_r (e' := gv_ap inq N (gv_gr v1 v2 v3) (t + 1)) ?_ (nm_r (nI_1 t) (ih (t + 1) n (by omega) (by omega)))⟩⟩
    · rw [gv_e64]; exact vp_in_nI (by omega) (by decide)
    · rw [gv_e64, nI_clamp (by omega), e1, e2]
      rfl
theorem gy_grad {post : Int32 → SY → Prop} {v1 v2 v3 : Int32} (hN : N < 9) (h1 : yp = 0 → N < 8 → post (nI N) (yq, yr, yb, nI (N + 1), yp, yd, yx, yy, gv_ap inq N (gv_gr v1 v2 v3) 64, req, yo, ymo, yve, ynz, ypp, ypd, yzc)) (h0 : (yp ≠ 0 ∨ 8 ≤ N) → post (-1) (yq, yr, yb, nI N, yp, yd, yx, yy, inq, req, yo, ymo, yve, ynz, ypp, ypd, yzc)) : wpY_appendGradient post (yq, yr, yb, nI N, yp, yd, yx, yy, inq, req, yo, ymo, yve, ynz, ypp, ypd, yzc) v1 v2 v3 := by
  unfold wpY_appendGradient
  dsimp only
  exact gy_can (by omega) (fun a b => br_f (by decide) ⟨65, gy_g12 b (h1 a b) 64 0 65 rfl (by decide)⟩) (fun a => br_t rfl (h0 a))
theorem gy_t13 {post : Int32 → SY → Prop} {sd : Int32} (hN : N < 8) (h : post (nI N) (yq, yr, yb, nI (N + 1), yp, yd, yx, yy, gv_ap inq N (gv_tx sd) 64, req, yo, ymo, yve, ynz, ypp, ypd, yzc)) :
    ∀ d t n, t + d = 64 → d < n → wY_appendTexture_13 post yq yr yb (nI N) yp yd yx yy n (gv_lc sd t) (nI t) (gv_ap inq N (gv_tx sd) t) req yo ymo yve ynz ypp ypd yzc := by
  intro d
  induction d with
  | zero =>
    intro t n ht hn
    obtain ⟨n, rfl⟩ : ∃ m, n = m + 1 := ⟨n - 1, by omega⟩
    obtain rfl : t = 64 := by omega
    refine br_t (by decide) (nm_r (nI_1 N) ?_)
    rw [nI_pred]
    exact h
  | succ d ih =>
    intro t n ht hn
    obtain ⟨n, rfl⟩ : ∃ m, n = m + 1 := ⟨n - 1, by omega⟩
    refine br_f (nI_ge (b := 64) (by omega) (by decide)) (nm_r (e' := gv_lc sd (t + 1)) rfl ⟨?_, nm_r (e' := gv_ap inq N (gv_tx sd) (t + 1)) ?_ (nm_r (nI_1 t) (ih (t + 1) n (by omega) (by omega)))⟩)
    · rw [gv_e64]; exact vp_in_nI (by omega) (by decide)
    · rw [gv_e64, nI_clamp (by omega)]
      rfl
theorem gy_text {post : Int32 → SY → Prop} {sd : Int32} (hN : N < 9) (h1 : yp = 0 → N < 8 → post (nI N) (yq, yr, yb, nI (N + 1), yp, yd, yx, yy, gv_ap inq N (gv_tx sd) 64, req, yo, ymo, yve, ynz, ypp, ypd, yzc)) (h0 : (yp ≠ 0 ∨ 8 ≤ N) → post (-1) (yq, yr, yb, nI N, yp, yd, yx, yy, inq, req, yo, ymo, yve, ynz, ypp, ypd, yzc)) : wpY_appendTexture post (yq, yr, yb, nI N, yp, yd, yx, yy, inq, req, yo, ymo, yve, ynz, ypp, ypd, yzc) sd := by
  unfold wpY_appendTexture
  dsimp only
  exact gy_can (by omega) (fun a b => br_f (by decide) ⟨65, gy_t13 b (h1 a b) 64 0 65 rfl (by decide)⟩) (fun a => br_t rfl (h0 a))
theorem gy_m24 {post : Int32 → SY → Prop} {dx dy dl : Int32} {s : Nat} (hN : N < 8) (hs : s < N) (h : post (nI N) (yq, yr, yb, nI (N + 1), yp, yd, yx, yy, gv_ap inq N (gv_mv inq s dx dy dl) 64, req, yo, ymo, yve, ynz, ypp, ypd, yzc)) :
    ∀ d t n, t + d = 64 → d < n → wY_appendMoved_24 post (nI s) dx dy dl yq yr yb (nI N) yp yd yx yy n (nI t) (gv_ap inq N (gv_mv inq s dx dy dl) t) req yo ymo yve ynz ypp ypd yzc := by
  intro d
  induction d with
  | zero =>
    intro t n ht hn
    obtain ⟨n, rfl⟩ : ∃ m, n = m + 1 := ⟨n - 1, by omega⟩
    obtain rfl : t = 64 := by omega
    refine br_t (by decide) (nm_r (nI_1 N) ?_)
    rw [nI_pred]
    exact h
  | succ d ih =>
    intro t n ht hn
    obtain ⟨n, rfl⟩ : ∃ m, n = m + 1 := ⟨n - 1, by omega⟩
    obtain ⟨e1, e2⟩ := gv_xy8 t (by omega)
    have b1 := (gv_c7_e (nI (t / 8) - dy)).2
    have b2 := (gv_c7_e (nI (t % 8) - dx)).2
    refine br_f (nI_ge (b := 64) (by omega) (by decide)) ⟨by decide, nm_r e1 ⟨by decide, nm_r e2 (gy_cl rfl (gy_cl rfl ⟨?_, gy_c255 ⟨?_, nm_r (e' := gv_ap inq N (gv_mv inq s dx dy dl) (t + 1)) ?_ (nm_r (nI_1 t) (ih (t + 1) n (by omega) (by omega)))⟩⟩))⟩⟩
    · rw [gx_ld]; exact vp_in_nI (by omega) (by decide)
    · rw [gv_e64]; exact vp_in_nI (by omega) (by decide)
    · rw [gv_e64, gx_ld, nI_clamp (by omega), nI_clamp (by omega), show gv_ap inq N (gv_mv inq s dx dy dl) t (s * 64 + gv_c7 (nI (t / 8) - dy) * 8 + gv_c7 (nI (t % 8) - dx)) = inq (s * 64 + gv_c7 (nI (t / 8) - dy) * 8 + gv_c7 (nI (t % 8) - dx)) from gv_wr_m _ (fun k _ => by omega)]
      rfl
theorem gy_move {post : Int32 → SY → Prop} {sr dx dy dl : Int32} (hN : N < 9) (h1 : ∀ s, yp = 0 → N < 8 → s < N → sr = nI s → post (nI N) (yq, yr, yb, nI (N + 1), yp, yd, yx, yy, gv_ap inq N (gv_mv inq s dx dy dl) 64, req, yo, ymo, yve, ynz, ypp, ypd, yzc)) (h0 : (yp ≠ 0 ∨ 8 ≤ N ∨ sr < 0 ∨ nI N ≤ sr) → post (-1) (yq, yr, yb, nI N, yp, yd, yx, yy, inq, req, yo, ymo, yve, ynz, ypp, ypd, yzc)) : wpY_appendMoved post (yq, yr, yb, nI N, yp, yd, yx, yy, inq, req, yo, ymo, yve, ynz, ypp, ypd, yzc) sr dx dy dl := by
  unfold wpY_appendMoved
  dsimp only
  refine gy_can (by omega) (fun a b => br_f (by decide) (br_c (fun c => h0 (Or.inr (Or.inr (Or.inl c)))) (fun c => br_c (fun e => ?_) (fun e => h0 (Or.inr (Or.inr (Or.inr (Int32.not_lt.mp e)))))))) (fun a => br_t rfl (h0 (a.elim Or.inl (fun z => Or.inr (Or.inl z)))))
  obtain ⟨s, hs, rfl⟩ := nI_of c
  have hsN : s < N := (nI_ltI hs (by omega)).mp e
  exact ⟨65, gy_m24 b hsN (h1 s a b hsN rfl) 64 0 65 rfl (by decide)⟩
end
