/-! what is owed: the questions -/
section
variable {qu rg bf ph fc dc oc wp rp oa na : Int32} {inp rec dcd typ ord mod vcs nzs str isd vct bwd prd res cof lev : Nat → Int32}
theorem gx_ct {post : Int32 → Prop} {f N : Nat} (hf : f < N) (hN : N < 9) (h : post 1) : wpX_isCoded post (qu, rg, bf, 1, nI N, dc, oc, wp, rp, oa, na, inp, rec, dcd, typ, ord, mod, vcs, nzs, str, isd, vct, bwd, prd, res, cof, lev) (nI f) := br_t rfl (gx_bt hf (by omega) (br_f (by decide) h))
theorem gx_cf {post : Int32 → Prop} {v : Int32} {N : Nat} (z : ph ≠ 1 ∨ v < 0 ∨ nI N ≤ v) (h : post 0) : wpX_isCoded post (qu, rg, bf, ph, nI N, dc, oc, wp, rp, oa, na, inp, rec, dcd, typ, ord, mod, vcs, nzs, str, isd, vct, bwd, prd, res, cof, lev) v := by
  refine br_c (fun a => ?_) (fun _ => h)
  rcases z with z | z
  · exact absurd a z
  · exact gx_bf z (br_t rfl h)
end
theorem gv_hO {mb n d : Nat} {ord : gv_F} (hm : mb < 4) (hn : n < 9) (hd : d ≤ n) (hO : ∀ p, p < n → ord p = nI (gv_od mb n p)) : ∀ p, p < d → ord p = nI (gv_od mb n p) ∧ gv_od mb n p < 8 := by
  intro p hp
  have := gv_od_lt mb hm n hn p (by omega)
  exact ⟨hO p (by omega), by omega⟩
/-- the reference's count in every state that the relation allows -/
theorem gv_outc {q r mb n d o : Nat} {ph rp oa na yx yy : Int32} {inp rec dcd typ ord str isd mod vcs nzs ypp ypd yzc : gv_F} {post : Int32 → Prop} (hL : gv_L q r mb n inp rec) (hc : (ph = 0 ∧ d = 0 ∧ o = 0) ∨ (ph = 1 ∧ gv_C q mb n d o rec dcd typ ord str isd rp oa na)) (h : post (nI o)) : wpY_outCount post (nI q, nI r, nI mb, nI n, ph, nI d, yx, yy, inp, rec, ord, mod, vcs, nzs, ypp, ypd, yzc) := by
  obtain ⟨hq, hr, hm, hn, hi, hR⟩ := hL
  rcases hc with ⟨rfl, rfl, rfl⟩ | ⟨rfl, hC⟩
  · exact gy_out (mb := mb) hn (by omega) (fun p hp => by omega) ⟨by omega, fun k hk => by omega, fun _ => rfl⟩ h
  · obtain ⟨n1, dn, hT, hO, rfl, rfl, rfl, hJ, hD, hOC, hI⟩ := hC
    exact gy_out (mb := mb) hn (by omega) (gv_hO hm hn dn hO) hOC h
theorem i_vc_status {k : Nat} {u : SX} {v : SY} (I : i_Rel k u v) (hk : k + 5 ≤ 2563) (v1 : Int32) : wpX_status (fun r => wpY_status (fun r' => r' = r ∧ i_Rel (k + 5) u v) v v1) u v1 := by
  obtain ⟨q, r, mb, n, d, o, ph, wp, rp, oa, na, yx, yy, inp, rec, dcd, typ, ord, mod, vcs, nzs, str, isd, vct, bwd, prd, res, cof, lev, ypp, ypd, yzc, rfl, rfl, hL, hc⟩ := I
  have I' : i_Rel (k + 5) (nI q, nI r, nI mb, ph, nI n, nI d, nI o, wp, rp, oa, na, inp, rec, dcd, typ, ord, mod, vcs, nzs, str, isd, vct, bwd, prd, res, cof, lev) (nI q, nI r, nI mb, nI n, ph, nI d, yx, yy, inp, rec, ord, mod, vcs, nzs, ypp, ypd, yzc) := gv_rel hL hc
  by_cases a0 : v1 = 0
  · subst a0; exact br_f (by decide) (br_f (by decide) (br_t rfl (br_t rfl ⟨rfl, I'⟩)))
  by_cases a1 : v1 = 1
  · subst a1; exact br_f (by decide) (br_f (by decide) (br_f (by decide) (br_t rfl (br_f (by decide) (br_t rfl ⟨rfl, I'⟩)))))
  by_cases a2 : v1 = 2
  · subst a2; exact br_f (by decide) (br_f (by decide) (br_f (by decide) (br_f (by decide) (br_t rfl (br_f (by decide) (br_f (by decide) (br_t rfl ⟨rfl, I'⟩)))))))
  by_cases a3 : v1 = 3
  · subst a3; exact br_f (by decide) (br_f (by decide) (br_f (by decide) (br_f (by decide) (br_f (by decide) (br_t rfl (br_f (by decide) (br_f (by decide) (br_f (by decide) (br_t rfl (gv_outc hL hc ⟨rfl, I'⟩))))))))))
  by_cases a4 : v1 = 4
  · subst a4; exact br_f (by decide) (br_f (by decide) (br_f (by decide) (br_f (by decide) (br_f (by decide) (br_f (by decide) (br_t rfl (br_f (by decide) (br_f (by decide) (br_f (by decide) (br_f (by decide) (br_t rfl ⟨rfl, I'⟩)))))))))))
  by_cases a5 : v1 = 5
  · subst a5; exact br_f (by decide) (br_f (by decide) (br_f (by decide) (br_f (by decide) (br_f (by decide) (br_f (by decide) (br_f (by decide) (br_t rfl (br_f (by decide) (br_f (by decide) (br_f (by decide) (br_f (by decide) (br_f (by decide) (br_t rfl ⟨rfl, I'⟩)))))))))))))
  by_cases a6 : v1 = 6
  · subst a6; exact br_f (by decide) (br_f (by decide) (br_f (by decide) (br_f (by decide) (br_f (by decide) (br_f (by decide) (br_f (by decide) (br_f (by decide) (br_t rfl (br_f (by decide) (br_f (by decide) (br_f (by decide) (br_f (by decide) (br_f (by decide) (br_f (by decide) (br_t rfl ⟨rfl, I'⟩)))))))))))))))
  have Y : wpY_status (fun r' => r' = -1 ∧ i_Rel (k + 5) (nI q, nI r, nI mb, ph, nI n, nI d, nI o, wp, rp, oa, na, inp, rec, dcd, typ, ord, mod, vcs, nzs, str, isd, vct, bwd, prd, res, cof, lev) (nI q, nI r, nI mb, nI n, ph, nI d, yx, yy, inp, rec, ord, mod, vcs, nzs, ypp, ypd, yzc)) (nI q, nI r, nI mb, nI n, ph, nI d, yx, yy, inp, rec, ord, mod, vcs, nzs, ypp, ypd, yzc) v1 := br_f a0 (br_f a1 (br_f a2 (br_f a3 (br_f a4 (br_f a5 (br_f a6 ⟨rfl, I'⟩))))))
  exact br_c (fun _ => Y) (fun _ => br_c (fun _ => Y) (fun _ => br_f a0 (br_f a1 (br_f a2 (br_f a3 (br_f a4 (br_f a5 (br_f a6 trivial))))))))
theorem i_vc_frameType {k : Nat} {u : SX} {v : SY} (I : i_Rel k u v) (hk : k + 5 ≤ 2563) (v1 : Int32) : wpX_frameType (fun r => wpY_frameType (fun r' => r' = r ∧ i_Rel (k + 5) u v) v v1) u v1 := by
  obtain ⟨q, r, mb, n, d, o, ph, wp, rp, oa, na, yx, yy, inp, rec, dcd, typ, ord, mod, vcs, nzs, str, isd, vct, bwd, prd, res, cof, lev, ypp, ypd, yzc, rfl, rfl, hL, hc⟩ := I
  have I' : i_Rel (k + 5) (nI q, nI r, nI mb, ph, nI n, nI d, nI o, wp, rp, oa, na, inp, rec, dcd, typ, ord, mod, vcs, nzs, str, isd, vct, bwd, prd, res, cof, lev) (nI q, nI r, nI mb, nI n, ph, nI d, yx, yy, inp, rec, ord, mod, vcs, nzs, ypp, ypd, yzc) := gv_rel hL hc
  unfold wpX_frameType
  dsimp only
  obtain ⟨hq, hr, hm, hn, hi, hR⟩ := hL
  rcases hc with ⟨rfl, rfl, rfl⟩ | ⟨rfl, hC⟩
  · exact gx_cf (Or.inl (by decide)) (br_t rfl (br_f (by decide) ⟨rfl, I'⟩))
  obtain ⟨n1, dn, hT, hO, rfl, rfl, rfl, hJ, hD, hOC, hI⟩ := hC
  rcases pk_ix v1 (n := n) (by omega) with z | z | ⟨f, hf, rfl⟩
  · exact gx_cf (Or.inr (Or.inl z)) (br_t rfl (br_t rfl (br_t z ⟨rfl, I'⟩)))
  · exact gx_cf (Or.inr (Or.inr z)) (br_t rfl (br_t rfl (br_f (gv_n0 (by omega) z) (br_f (Int32.not_lt.mpr z) ⟨rfl, I'⟩))))
  refine gx_ct hf hn (br_f (by decide) ⟨vp_in_nI (by omega) (by decide), br_t rfl (br_f (nI_pos (by omega)) (br_t (nI_lt hf (by omega)) (gy_type hm hn n1 (by omega) ⟨?_, I'⟩)))⟩)
  rw [nI_clamp (by omega), hT f hf]
theorem i_vc_codingOrder {k : Nat} {u : SX} {v : SY} (I : i_Rel k u v) (hk : k + 5 ≤ 2563) (v1 : Int32) : wpX_codingOrder (fun r => wpY_codingOrder (fun r' => r' = r ∧ i_Rel (k + 5) u v) v v1) u v1 := by
  obtain ⟨q, r, mb, n, d, o, ph, wp, rp, oa, na, yx, yy, inp, rec, dcd, typ, ord, mod, vcs, nzs, str, isd, vct, bwd, prd, res, cof, lev, ypp, ypd, yzc, rfl, rfl, hL, hc⟩ := I
  have I' : i_Rel (k + 5) (nI q, nI r, nI mb, ph, nI n, nI d, nI o, wp, rp, oa, na, inp, rec, dcd, typ, ord, mod, vcs, nzs, str, isd, vct, bwd, prd, res, cof, lev) (nI q, nI r, nI mb, nI n, ph, nI d, yx, yy, inp, rec, ord, mod, vcs, nzs, ypp, ypd, yzc) := gv_rel hL hc
  unfold wpX_codingOrder
  dsimp only
  obtain ⟨hq, hr, hm, hn, hi, hR⟩ := hL
  rcases hc with ⟨rfl, rfl, rfl⟩ | ⟨rfl, hC⟩
  · exact gx_cf (Or.inl (by decide)) (br_t rfl (br_f (by decide) ⟨rfl, I'⟩))
  rcases pk_ix v1 (n := n) (by omega) with z | z | ⟨f, hf, rfl⟩
  · exact gx_cf (Or.inr (Or.inl z)) (br_t rfl (br_t rfl (br_t z ⟨rfl, I'⟩)))
  · exact gx_cf (Or.inr (Or.inr z)) (br_t rfl (br_t rfl (br_f (gv_n0 (by omega) z) (br_f (Int32.not_lt.mpr z) ⟨rfl, I'⟩))))
  exact gx_ct hf hn (br_f (by decide) ⟨vp_in_nI (by omega) (by decide), br_t rfl (br_f (nI_pos (by omega)) (br_t (nI_lt hf (by omega)) ⟨vp_in_nI (by omega) (by decide), rfl, I'⟩))⟩)
theorem gv_k4 {x : Int32} (h : nI 4 ≤ x) : ¬ x < 0 ∧ ¬ x ≤ 3 := by
  rw [gv_le, show (nI 4).toInt = 4 from by decide] at h
  rw [gv_lt, gv_le, gv_i0, show (3 : Int32).toInt = 3 from by decide]
  omega
theorem gv_k3 {b : Nat} (h : b < 4) : nI b ≤ 3 := nI_le (b := 3) (by omega) (by decide)
theorem gv_k2 {x : Int32} (h : nI 2 ≤ x) : ¬ x < 0 ∧ 1 < x ∧ ¬ x ≤ 1 := by
  rw [gv_le, show (nI 2).toInt = 2 from by decide] at h
  rw [gv_lt, gv_lt, gv_le, gv_i0, show (1 : Int32).toInt = 1 from by decide]
  omega
theorem i_vc_blockMode {k : Nat} {u : SX} {v : SY} (I : i_Rel k u v) (hk : k + 5 ≤ 2563) (v1 : Int32) (v2 : Int32) : wpX_blockMode (fun r => wpY_blockMode (fun r' => r' = r ∧ i_Rel (k + 5) u v) v v1 v2) u v1 v2 := by
  obtain ⟨q, r, mb, n, d, o, ph, wp, rp, oa, na, yx, yy, inp, rec, dcd, typ, ord, mod, vcs, nzs, str, isd, vct, bwd, prd, res, cof, lev, ypp, ypd, yzc, rfl, rfl, hL, hc⟩ := I
  have I' : i_Rel (k + 5) (nI q, nI r, nI mb, ph, nI n, nI d, nI o, wp, rp, oa, na, inp, rec, dcd, typ, ord, mod, vcs, nzs, str, isd, vct, bwd, prd, res, cof, lev) (nI q, nI r, nI mb, nI n, ph, nI d, yx, yy, inp, rec, ord, mod, vcs, nzs, ypp, ypd, yzc) := gv_rel hL hc
  unfold wpX_blockMode
  dsimp only
  obtain ⟨hq, hr, hm, hn, hi, hR⟩ := hL
  rcases hc with ⟨rfl, rfl, rfl⟩ | ⟨rfl, hC⟩
  · exact gx_cf (Or.inl (by decide)) (br_t rfl (br_f (by decide) ⟨rfl, I'⟩))
  rcases pk_ix v1 (n := n) (by omega) with z | z | ⟨f, hf, rfl⟩
  · exact gx_cf (Or.inr (Or.inl z)) (br_t rfl (br_t rfl (br_t z ⟨rfl, I'⟩)))
  · exact gx_cf (Or.inr (Or.inr z)) (br_t rfl (br_t rfl (br_f (gv_n0 (by omega) z) (br_t z ⟨rfl, I'⟩))))
  refine gx_ct hf hn (br_f (by decide) ?_)
  have y1 : ¬ nI f < 0 := nI_pos (by omega)
  have y2 : ¬ nI n ≤ nI f := nI_ge hf (by omega)
  rcases pk_ix v2 (n := 4) (by decide) with z | z | ⟨b, hb, rfl⟩
  · exact gx_bf (c := 4) (Or.inl z) (br_t rfl (br_t rfl (br_f y1 (br_f y2 (br_t z ⟨rfl, I'⟩)))))
  · exact gx_bf (c := 4) (Or.inr z) (br_t rfl (br_t rfl (br_f y1 (br_f y2 (br_f (gv_k4 z).1 (br_f (gv_k4 z).2 ⟨rfl, I'⟩))))))
  have e1 : vp_in ((nI f * 4) + nI b) 32 := by rw [gx_4]; exact vp_in_nI (by omega) (by decide)
  exact gx_bt (c := 4) hb (by decide) (br_f (by decide) ⟨e1, br_t rfl (br_f y1 (br_f y2 (br_f (nI_pos (by omega)) (br_t (gv_k3 hb) ⟨e1, rfl, I'⟩))))⟩)
theorem i_vc_nonZero {k : Nat} {u : SX} {v : SY} (I : i_Rel k u v) (hk : k + 5 ≤ 2563) (v1 : Int32) (v2 : Int32) : wpX_nonZero (fun r => wpY_nonZero (fun r' => r' = r ∧ i_Rel (k + 5) u v) v v1 v2) u v1 v2 := by
  obtain ⟨q, r, mb, n, d, o, ph, wp, rp, oa, na, yx, yy, inp, rec, dcd, typ, ord, mod, vcs, nzs, str, isd, vct, bwd, prd, res, cof, lev, ypp, ypd, yzc, rfl, rfl, hL, hc⟩ := I
  have I' : i_Rel (k + 5) (nI q, nI r, nI mb, ph, nI n, nI d, nI o, wp, rp, oa, na, inp, rec, dcd, typ, ord, mod, vcs, nzs, str, isd, vct, bwd, prd, res, cof, lev) (nI q, nI r, nI mb, nI n, ph, nI d, yx, yy, inp, rec, ord, mod, vcs, nzs, ypp, ypd, yzc) := gv_rel hL hc
  unfold wpX_nonZero
  dsimp only
  obtain ⟨hq, hr, hm, hn, hi, hR⟩ := hL
  rcases hc with ⟨rfl, rfl, rfl⟩ | ⟨rfl, hC⟩
  · exact gx_cf (Or.inl (by decide)) (br_t rfl (br_f (by decide) ⟨rfl, I'⟩))
  rcases pk_ix v1 (n := n) (by omega) with z | z | ⟨f, hf, rfl⟩
  · exact gx_cf (Or.inr (Or.inl z)) (br_t rfl (br_t rfl (br_t z ⟨rfl, I'⟩)))
  · exact gx_cf (Or.inr (Or.inr z)) (br_t rfl (br_t rfl (br_f (gv_n0 (by omega) z) (br_t z ⟨rfl, I'⟩))))
  refine gx_ct hf hn (br_f (by decide) ?_)
  have y1 : ¬ nI f < 0 := nI_pos (by omega)
  have y2 : ¬ nI n ≤ nI f := nI_ge hf (by omega)
  rcases pk_ix v2 (n := 4) (by decide) with z | z | ⟨b, hb, rfl⟩
  · exact gx_bf (c := 4) (Or.inl z) (br_t rfl (br_t rfl (br_f y1 (br_f y2 (br_t z ⟨rfl, I'⟩)))))
  · exact gx_bf (c := 4) (Or.inr z) (br_t rfl (br_t rfl (br_f y1 (br_f y2 (br_f (gv_k4 z).1 (br_f (gv_k4 z).2 ⟨rfl, I'⟩))))))
  have e1 : vp_in ((nI f * 4) + nI b) 32 := by rw [gx_4]; exact vp_in_nI (by omega) (by decide)
  exact gx_bt (c := 4) hb (by decide) (br_f (by decide) ⟨e1, br_t rfl (br_f y1 (br_f y2 (br_f (nI_pos (by omega)) (br_t (gv_k3 hb) ⟨e1, rfl, I'⟩))))⟩)
theorem gv_i16 {f b l c : Nat} : (((nI f * 4) + nI b) * 4) + nI (l * 2 + c) = (((((nI f * 4) + nI b) * 4) + (nI l * 2)) + nI c) := by
  rw [show (2 : Int32) = nI 2 from rfl, pk_mul, Int32.add_assoc, nI_add]
theorem gv_i17 {f b l c : Nat} : (((((nI f * 4) + nI b) * 4) + (nI l * 2)) + nI c) = nI ((f * 4 + b) * 4 + l * 2 + c) := by
  rw [gx_4, show (2 : Int32) = nI 2 from rfl, show (4 : Int32) = nI 4 from rfl, pk_mul, pk_mul, nI_add, nI_add]
theorem i_vc_blockVector {k : Nat} {u : SX} {v : SY} (I : i_Rel k u v) (hk : k + 5 ≤ 2563) (v1 : Int32) (v2 : Int32) (v3 : Int32) (v4 : Int32) : wpX_blockVector (fun r => wpY_blockVector (fun r' => r' = r ∧ i_Rel (k + 5) u v) v v1 v2 v3 v4) u v1 v2 v3 v4 := by
  obtain ⟨q, r, mb, n, d, o, ph, wp, rp, oa, na, yx, yy, inp, rec, dcd, typ, ord, mod, vcs, nzs, str, isd, vct, bwd, prd, res, cof, lev, ypp, ypd, yzc, rfl, rfl, hL, hc⟩ := I
  have I' : i_Rel (k + 5) (nI q, nI r, nI mb, ph, nI n, nI d, nI o, wp, rp, oa, na, inp, rec, dcd, typ, ord, mod, vcs, nzs, str, isd, vct, bwd, prd, res, cof, lev) (nI q, nI r, nI mb, nI n, ph, nI d, yx, yy, inp, rec, ord, mod, vcs, nzs, ypp, ypd, yzc) := gv_rel hL hc
  unfold wpX_blockVector
  dsimp only
  obtain ⟨hq, hr, hm, hn, hi, hR⟩ := hL
  rcases hc with ⟨rfl, rfl, rfl⟩ | ⟨rfl, hC⟩
  · exact gx_cf (Or.inl (by decide)) (br_t rfl (br_f (by decide) ⟨rfl, I'⟩))
  rcases pk_ix v1 (n := n) (by omega) with z | z | ⟨f, hf, rfl⟩
  · exact gx_cf (Or.inr (Or.inl z)) (br_t rfl (br_t rfl (br_t z ⟨rfl, I'⟩)))
  · exact gx_cf (Or.inr (Or.inr z)) (br_t rfl (br_t rfl (br_f (gv_n0 (by omega) z) (br_t z ⟨rfl, I'⟩))))
  refine gx_ct hf hn (br_f (by decide) ?_)
  have y1 : ¬ nI f < 0 := nI_pos (by omega)
  have y2 : ¬ nI n ≤ nI f := nI_ge hf (by omega)
  rcases pk_ix v2 (n := 4) (by decide) with z | z | ⟨b, hb, rfl⟩
  · exact gx_bf (c := 4) (Or.inl z) (br_t rfl (br_t rfl (br_f y1 (br_f y2 (br_t z ⟨rfl, I'⟩)))))
  · exact gx_bf (c := 4) (Or.inr z) (br_t rfl (br_t rfl (br_f y1 (br_f y2 (br_f (gv_k4 z).1 (br_f (gv_k4 z).2 ⟨rfl, I'⟩))))))
  refine gx_bt (c := 4) hb (by decide) (br_f (by decide) ?_)
  have y3 : ¬ nI b < 0 := nI_pos (by omega)
  have y4 := gv_k3 hb
  rcases pk_ix v3 (n := 2) (by decide) with z | z | ⟨l, hl, rfl⟩
  · exact gx_bf (c := 2) (Or.inl z) (br_t rfl (br_t rfl (br_f y1 (br_f y2 (br_f y3 (br_t y4 (br_t z ⟨rfl, I'⟩)))))))
  · exact gx_bf (c := 2) (Or.inr z) (br_t rfl (br_t rfl (br_f y1 (br_f y2 (br_f y3 (br_t y4 (br_f (gv_k2 z).1 (br_t (gv_k2 z).2.1 ⟨rfl, I'⟩))))))))
  refine gx_bt (c := 2) hl (by decide) (br_f (by decide) ?_)
  have y5 : ¬ nI l < 0 := nI_pos (by omega)
  have y6 : ¬ (1 : Int32) < nI l := nI_nlt (a := 1) (by omega) (by decide)
  rcases pk_ix v4 (n := 2) (by decide) with z | z | ⟨c, hcc, rfl⟩
  · exact gx_bf (c := 2) (Or.inl z) (br_t rfl (br_t rfl (br_f y1 (br_f y2 (br_f y3 (br_t y4 (br_f y5 (br_f y6 (br_t z ⟨rfl, I'⟩)))))))))
  · exact gx_bf (c := 2) (Or.inr z) (br_t rfl (br_t rfl (br_f y1 (br_f y2 (br_f y3 (br_t y4 (br_f y5 (br_f y6 (br_f (gv_k2 z).1 (br_f (gv_k2 z).2.2 ⟨rfl, I'⟩))))))))))
  refine gx_bt (c := 2) hcc (by decide) (br_f (by decide) ?_)
  have y7 : ¬ nI c < 0 := nI_pos (by omega)
  have y8 : nI c ≤ 1 := nI_le (b := 1) (by omega) (by decide)
  have e1 : vp_in (((((nI f * 4) + nI b) * 4) + (nI l * 2)) + nI c) 128 := by rw [gv_i17]; exact vp_in_nI (by omega) (by decide)
  have W : ∀ z0 : Int32, z0 + nI c = nI (l * 2 + c) → wX_blockVector_48 (fun r0 => wpY_blockVector (fun r' => r' = r0 ∧ i_Rel (k + 5) (nI q, nI r, nI mb, 1, nI n, nI d, nI o, wp, rp, oa, na, inp, rec, dcd, typ, ord, mod, vcs, nzs, str, isd, vct, bwd, prd, res, cof, lev) (nI q, nI r, nI mb, nI n, 1, nI d, yx, yy, inp, rec, ord, mod, vcs, nzs, ypp, ypd, yzc)) (nI q, nI r, nI mb, nI n, 1, nI d, yx, yy, inp, rec, ord, mod, vcs, nzs, ypp, ypd, yzc) (nI f) (nI b) (nI l) (nI c)) (nI f) (nI b) (nI c) z0 (nI q) (nI r) (nI mb) 1 (nI n) (nI d) (nI o) wp rp oa na inp rec dcd typ ord mod vcs nzs str isd vct bwd prd res cof lev := by
    intro z0 ez
    refine nm_r ez ⟨?_, br_t rfl (br_f y1 (br_f y2 (br_f y3 (br_t y4 (br_f y5 (br_f y6 (br_f y7 (br_t y8 ⟨e1, ?_, I'⟩))))))))⟩
    · rw [gv_i16]; exact e1
    · rw [gv_i16]
  rcases (by omega : l = 0 ∨ l = 1) with rfl | rfl
  · refine br_t rfl (W 0 ?_)
    rw [show (0 : Int32) = nI 0 from rfl, nI_add]
  · refine br_f (by decide) (W 2 ?_)
    rw [show (2 : Int32) = nI 2 from rfl, nI_add]
theorem i_vc_pixel {k : Nat} {u : SX} {v : SY} (I : i_Rel k u v) (hk : k + 5 ≤ 2563) (v1 : Int32) (v2 : Int32) (v3 : Int32) (v4 : Int32) : wpX_pixel (fun r => wpY_pixel (fun r' => r' = r ∧ i_Rel (k + 5) u v) v v1 v2 v3 v4) u v1 v2 v3 v4 := by
  obtain ⟨q, r, mb, n, d, o, ph, wp, rp, oa, na, yx, yy, inp, rec, dcd, typ, ord, mod, vcs, nzs, str, isd, vct, bwd, prd, res, cof, lev, ypp, ypd, yzc, rfl, rfl, hL, hc⟩ := I
  have I' : i_Rel (k + 5) (nI q, nI r, nI mb, ph, nI n, nI d, nI o, wp, rp, oa, na, inp, rec, dcd, typ, ord, mod, vcs, nzs, str, isd, vct, bwd, prd, res, cof, lev) (nI q, nI r, nI mb, nI n, ph, nI d, yx, yy, inp, rec, ord, mod, vcs, nzs, ypp, ypd, yzc) := gv_rel hL hc
  have OUT := @gv_outc q r mb n d o ph rp oa na yx yy inp rec dcd typ ord str isd mod vcs nzs ypp ypd yzc
  unfold wpX_pixel
  dsimp only
  have hn := hL.2.2.2.1
  have hm := hL.2.2.1
  rcases pk_ix v3 (n := 8) (by decide) with z | z | ⟨x, hx, rfl⟩
  · exact gx_bf (c := 8) (Or.inl z) (br_t rfl (br_t z ⟨rfl, I'⟩))
  · exact gx_bf (c := 8) (Or.inr z) (br_t rfl (br_f (gv_78 z).1 (br_t (gv_78 z).2 ⟨rfl, I'⟩)))
  refine gx_bt (c := 8) hx (by decide) (br_f (by decide) ?_)
  have y1 : ¬ nI x < 0 := nI_pos (by omega)
  have y2 := gv_k7 hx
  rcases pk_ix v4 (n := 8) (by decide) with z | z | ⟨y, hy, rfl⟩
  · exact gx_bf (c := 8) (Or.inl z) (br_t rfl (br_f y1 (br_f y2 (br_t z ⟨rfl, I'⟩))))
  · have : ¬ v4 ≤ 7 := Int32.not_le.mpr (gv_78 z).2
    exact gx_bf (c := 8) (Or.inr z) (br_t rfl (br_f y1 (br_f y2 (br_f (gv_78 z).1 (br_f this ⟨rfl, I'⟩)))))
  have y3 : ¬ nI y < 0 := nI_pos (by omega)
  have y4 : nI y ≤ 7 := nI_le (b := 7) (by omega) (by decide)
  refine gx_bt (c := 8) hy (by decide) (br_f (by decide) (nm_r (e' := nI (y * 8 + x)) (by rw [show (8 : Int32) = nI 8 from rfl, pk_mul, nI_add]) ?_))
  have ex : ∀ f : Nat, nI f * 64 + nI (y * 8 + x) = nI (f * 64 + (y * 8 + x)) := fun f => gv_e64
  have ey : ∀ f : Nat, ((nI f * 64) + (nI y * 8)) + nI x = nI (f * 64 + (y * 8 + x)) := fun f => by rw [gx_ld, Nat.add_assoc]
  have vi : ∀ f : Nat, f < 8 → vp_in (nI (f * 64 + (y * 8 + x))) 512 := fun f hf => vp_in_nI (by omega) (by decide)
  by_cases p0 : v1 = 0
  · subst p0
    refine br_t rfl ?_
    rcases pk_ix v2 (n := n) (by omega) with z | z | ⟨f, hf, rfl⟩
    · exact gx_bf (Or.inl z) (br_t rfl (br_f (by decide) (br_f (by decide) (br_f y1 (br_f y2 (br_f y3 (br_t y4 (br_t rfl (br_t z ⟨rfl, I'⟩)))))))))
    · exact gx_bf (Or.inr z) (br_t rfl (br_f (by decide) (br_f (by decide) (br_f y1 (br_f y2 (br_f y3 (br_t y4 (br_t rfl (br_f (gv_n0 (by omega) z) (br_f (Int32.not_lt.mpr z) ⟨rfl, I'⟩))))))))))
    · refine gx_bt hf (by omega) (br_f (by decide) ⟨by rw [ex]; exact vi f (by omega), br_f y1 (br_f y2 (br_f y3 (br_t y4 (br_t rfl (br_f (nI_pos (by omega)) (br_t (nI_lt hf (by omega)) ⟨by rw [ey]; exact vi f (by omega), ?_, I'⟩))))))⟩)
      rw [ex, ey]
  refine br_f p0 ?_
  by_cases p1 : v1 = 1
  · subst p1
    refine br_t rfl ?_
    by_cases hp : ph = 1
    case neg => exact gx_cf (Or.inl hp) (br_t rfl (br_f (by decide) (br_f y1 (br_f y2 (br_f y3 (br_t y4 (br_f (by decide) (br_t rfl (br_f hp ⟨rfl, I'⟩)))))))))
    subst hp
    rcases pk_ix v2 (n := n) (by omega) with z | z | ⟨f, hf, rfl⟩
    · exact gx_cf (Or.inr (Or.inl z)) (br_t rfl (br_f (by decide) (br_f y1 (br_f y2 (br_f y3 (br_t y4 (br_f (by decide) (br_t rfl (br_t rfl (br_t z ⟨rfl, I'⟩))))))))))
    · exact gx_cf (Or.inr (Or.inr z)) (br_t rfl (br_f (by decide) (br_f y1 (br_f y2 (br_f y3 (br_t y4 (br_f (by decide) (br_t rfl (br_t rfl (br_f (gv_n0 (by omega) z) (br_f (Int32.not_lt.mpr z) ⟨rfl, I'⟩)))))))))))
    · refine gx_ct hf hn (br_f (by decide) ⟨by rw [ex]; exact vi f (by omega), br_f y1 (br_f y2 (br_f y3 (br_t y4 (br_f (by decide) (br_t rfl (br_t rfl (br_f (nI_pos (by omega)) (br_t (nI_lt hf (by omega)) ⟨by rw [ey]; exact vi f (by omega), ?_, I'⟩))))))))⟩)
      rw [ex, ey]
  refine br_f p1 ?_
  by_cases p2 : v1 = 2
  case neg => exact br_f p2 (br_f y1 (br_f y2 (br_f y3 (br_t y4 (br_f p0 (br_f p1 (br_f p2 ⟨rfl, I'⟩)))))))
  subst p2
  refine br_t rfl ?_
  have ho : o ≤ 8 := by
    rcases hc with ⟨-, -, rfl⟩ | ⟨-, hC⟩
    · omega
    · have := hC.2.2.2.2.2.2.2.2.2.1.1; omega
  rcases pk_ix v2 (n := o) (by omega) with z | z | ⟨f, hf, rfl⟩
  · exact gx_bf (Or.inl z) (br_t rfl (br_f y1 (br_f y2 (br_f y3 (br_t y4 (br_f (by decide) (br_f (by decide) (br_t rfl (br_t z ⟨rfl, I'⟩)))))))))
  · exact gx_bf (Or.inr z) (br_t rfl (br_f y1 (br_f y2 (br_f y3 (br_t y4 (br_f (by decide) (br_f (by decide) (br_t rfl (br_f (gv_n0 (by omega) z) (OUT hL hc (br_f (Int32.not_lt.mpr z) ⟨rfl, I'⟩)))))))))))
  · refine gx_bt hf (by omega) (br_f (by decide) ⟨by rw [ex]; exact vi f (by omega), br_f y1 (br_f y2 (br_f y3 (br_t y4 (br_f (by decide) (br_f (by decide) (br_t rfl (br_f (nI_pos (by omega)) (OUT hL hc (br_t (nI_lt hf (by omega)) ⟨by rw [ey]; exact vi f (by omega), ?_, I'⟩)))))))))⟩)
    rw [ex, ey, nI_clamp (by omega)]
    rcases hc with ⟨-, -, rfl⟩ | ⟨-, hC⟩
    · omega
    · obtain ⟨n1, dn, hT, hO, rfl, rfl, rfl, hJ, hD, hOC, hI⟩ := hC
      obtain ⟨p, hp, ep⟩ := gv_in_e (hOC.2.1 f hf)
      rw [← ep]
      exact (hD.1 p hp _ (by omega)).symm
theorem i_vc_outputFrame {k : Nat} {u : SX} {v : SY} (I : i_Rel k u v) (hk : k + 5 ≤ 2563) (v1 : Int32) : wpX_outputFrame (fun r => wpY_outputFrame (fun r' => r' = r ∧ i_Rel (k + 5) u v) v v1) u v1 := by
  obtain ⟨q, r, mb, n, d, o, ph, wp, rp, oa, na, yx, yy, inp, rec, dcd, typ, ord, mod, vcs, nzs, str, isd, vct, bwd, prd, res, cof, lev, ypp, ypd, yzc, rfl, rfl, hL, hc⟩ := I
  have I' : i_Rel (k + 5) (nI q, nI r, nI mb, ph, nI n, nI d, nI o, wp, rp, oa, na, inp, rec, dcd, typ, ord, mod, vcs, nzs, str, isd, vct, bwd, prd, res, cof, lev) (nI q, nI r, nI mb, nI n, ph, nI d, yx, yy, inp, rec, ord, mod, vcs, nzs, ypp, ypd, yzc) := gv_rel hL hc
  have OUT := @gv_outc q r mb n d o ph rp oa na yx yy inp rec dcd typ ord str isd mod vcs nzs ypp ypd yzc
  unfold wpX_outputFrame
  dsimp only
  have hn := hL.2.2.2.1
  have ho : o ≤ 8 := by
    rcases hc with ⟨-, -, rfl⟩ | ⟨-, hC⟩
    · omega
    · have := hC.2.2.2.2.2.2.2.2.2.1.1; omega
  rcases pk_ix v1 (n := o) (by omega) with z | z | ⟨f, hf, rfl⟩
  · exact gx_bf (Or.inl z) (br_t rfl (br_t z ⟨rfl, I'⟩))
  · exact gx_bf (Or.inr z) (br_t rfl (br_f (gv_n0 (by omega) z) (OUT hL hc (br_f (Int32.not_lt.mpr z) ⟨rfl, I'⟩))))
  · exact gx_bt hf (by omega) (br_f (by decide) (br_f (nI_pos (by omega)) (OUT hL hc (br_t (nI_lt hf (by omega)) ⟨rfl, I'⟩))))
