/-! what is owed: the beginning, reset, appends, setPixel, encode, decodeNext -/
theorem gv_rel {k q r mb n d o : Nat} {ph wp rp oa na yx yy : Int32} {inp rec dcd typ ord mod vcs nzs str isd vct bwd prd res cof lev ypp ypd yzc : gv_F} (hL : gv_L q r mb n inp rec) (hc : (ph = 0 ∧ d = 0 ∧ o = 0) ∨ (ph = 1 ∧ gv_C q mb n d o rec dcd typ ord str isd rp oa na)) : i_Rel k (nI q, nI r, nI mb, ph, nI n, nI d, nI o, wp, rp, oa, na, inp, rec, dcd, typ, ord, mod, vcs, nzs, str, isd, vct, bwd, prd, res, cof, lev) (nI q, nI r, nI mb, nI n, ph, nI d, yx, yy, inp, rec, ord, mod, vcs, nzs, ypp, ypd, yzc) :=
  ⟨q, r, mb, n, d, o, ph, wp, rp, oa, na, yx, yy, inp, rec, dcd, typ, ord, mod, vcs, nzs, str, isd, vct, bwd, prd, res, cof, lev, ypp, ypd, yzc, rfl, rfl, hL, hc⟩
theorem i_up {k : Nat} {u : SX} {v : SY} (h : i_Rel k u v) : i_Rel (k + 5) u v := h
theorem gv_cpN {v : Int32} (lo hi : Nat) (h : lo ≤ hi) (hh : hi < 2 ^ 31) : ∃ j, lo ≤ j ∧ j ≤ hi ∧ gv_cp v (nI lo) (nI hi) = nI j := by
  have a := gv_cp_r (v := v) (lo := nI lo) (hi := nI hi) (by rw [nI_toInt hh, nI_toInt (by omega)]; omega)
  rw [nI_toInt hh, nI_toInt (by omega)] at a
  obtain ⟨e1, e2, e3⟩ := gv_nI_of (x := gv_cp v (nI lo) (nI hi)) (by omega)
  exact ⟨_, by omega, by omega, e1⟩
theorem i_vc0 (k0 : Int32) (k1 : Int32) (k2 : Int32) : wpX_init (fun u => wpY_init (fun v => i_Rel 3 u v) k0 k1 k2) k0 k1 k2 := by
  obtain ⟨q, q1, q2, eq⟩ := gv_cpN (v := k0) 1 64 (by decide) (by decide)
  obtain ⟨r, r1, r2, er⟩ := gv_cpN (v := k1) 0 2 (by decide) (by decide)
  obtain ⟨mb, m1, m2, em⟩ := gv_cpN (v := k2) 0 3 (by decide) (by decide)
  unfold wpX_init wpY_init
  refine gx_clamp (gx_clamp (gx_clamp (gy_clamp (gy_clamp (gy_clamp ?_)))))
  show i_Rel 3 (gv_cp k0 (nI 1) (nI 64), gv_cp k1 (nI 0) (nI 2), gv_cp k2 (nI 0) (nI 3), 0, 0, 0, 0, 0, 0, 0, 0, _, _, _, _, _, _, _, _, _, _, _, _, _, _, _, _) (gv_cp k0 (nI 1) (nI 64), gv_cp k1 (nI 0) (nI 2), gv_cp k2 (nI 0) (nI 3), 0, 0, 0, 0, 0, _, _, _, _, _, _, _, _, _)
  rw [eq, er, em]
  exact gv_rel (n := 0) (d := 0) (o := 0) ⟨⟨q1, q2⟩, by omega, by omega, by omega, gv_P0, gv_P0⟩ (Or.inl ⟨rfl, rfl, rfl⟩)
theorem i_vc_reset {k : Nat} {u : SX} {v : SY} (I : i_Rel k u v) (hk : k + 5 ≤ 2563) : wpX_reset (fun u' => wpY_reset (fun v' => i_Rel (k + 5) u' v') v) u := by
  obtain ⟨q, r, mb, n, d, o, ph, wp, rp, oa, na, yx, yy, inp, rec, dcd, typ, ord, mod, vcs, nzs, str, isd, vct, bwd, prd, res, cof, lev, ypp, ypd, yzc, rfl, rfl, hL, hc⟩ := I
  obtain ⟨hq, hr, hm, hn, hi, hR⟩ := hL
  show i_Rel (k + 5) (nI q, nI r, nI mb, 0, nI 0, nI 0, nI 0, wp, rp, oa, na, inp, rec, dcd, typ, ord, mod, vcs, nzs, str, isd, vct, bwd, prd, res, cof, lev) (nI q, nI r, nI mb, nI 0, 0, nI 0, yx, yy, inp, rec, ord, mod, vcs, nzs, ypp, ypd, yzc)
  exact gv_rel ⟨hq, hr, hm, by omega, hi, hR⟩ (Or.inl ⟨rfl, rfl, rfl⟩)
theorem gv_01 {ph : Int32} {A B : Prop} (h : (ph = 0 ∧ A) ∨ (ph = 1 ∧ B)) (h0 : ph = 0) : A := by
  rcases h with ⟨-, a⟩ | ⟨b, -⟩
  · exact a
  · rw [h0] at b; exact absurd b (by decide)
theorem gv_app {k q r mb n d o : Nat} {ph wp rp oa na yx yy : Int32} {inp rec dcd typ ord mod vcs nzs str isd vct bwd prd res cof lev ypp ypd yzc v : gv_F} (hL : gv_L q r mb n inp rec) (hc : (ph = 0 ∧ d = 0 ∧ o = 0) ∨ (ph = 1 ∧ gv_C q mb n d o rec dcd typ ord str isd rp oa na))
    (h0 : ph = 0) (h8 : n < 8) (hv : ∀ t, t < 64 → gv_px (v t)) : i_Rel k (nI q, nI r, nI mb, ph, nI (n + 1), nI d, nI o, wp, rp, oa, na, gv_ap inp n v 64, rec, dcd, typ, ord, mod, vcs, nzs, str, isd, vct, bwd, prd, res, cof, lev) (nI q, nI r, nI mb, nI (n + 1), ph, nI d, yx, yy, gv_ap inp n v 64, rec, ord, mod, vcs, nzs, ypp, ypd, yzc) := by
  obtain ⟨hq, hr, hm, hn, hi, hR⟩ := hL
  exact gv_rel ⟨hq, hr, hm, by omega, gv_P_w hi 64 hv, hR⟩ (Or.inl ⟨h0, gv_01 hc h0⟩)
theorem i_vc_appendGradient {k : Nat} {u : SX} {v : SY} (I : i_Rel k u v) (hk : k + 5 ≤ 2563) (v1 : Int32) (v2 : Int32) (v3 : Int32) : wpX_appendGradient (fun r u' => wpY_appendGradient (fun r' v' => r' = r ∧ i_Rel (k + 5) u' v') v v1 v2 v3) u v1 v2 v3 := by
  obtain ⟨q, r, mb, n, d, o, ph, wp, rp, oa, na, yx, yy, inp, rec, dcd, typ, ord, mod, vcs, nzs, str, isd, vct, bwd, prd, res, cof, lev, ypp, ypd, yzc, rfl, rfl, hL, hc⟩ := I
  have I' : i_Rel (k + 5) (nI q, nI r, nI mb, ph, nI n, nI d, nI o, wp, rp, oa, na, inp, rec, dcd, typ, ord, mod, vcs, nzs, str, isd, vct, bwd, prd, res, cof, lev) (nI q, nI r, nI mb, nI n, ph, nI d, yx, yy, inp, rec, ord, mod, vcs, nzs, ypp, ypd, yzc) := gv_rel hL hc
  have hn := hL.2.2.2.1
  refine gx_grad hn (fun a b => gy_grad hn (fun _ _ => ⟨rfl, gv_app hL hc a b (fun t _ => gv_c255 _)⟩) (fun z => ?_)) (fun z => gy_grad hn (fun a b => ?_) (fun _ => ⟨rfl, I'⟩))
  · rcases z with z | z
    · exact absurd a z
    · omega
  · rcases z with z | z
    · exact absurd a z
    · omega
theorem i_vc_appendTexture {k : Nat} {u : SX} {v : SY} (I : i_Rel k u v) (hk : k + 5 ≤ 2563) (v1 : Int32) : wpX_appendTexture (fun r u' => wpY_appendTexture (fun r' v' => r' = r ∧ i_Rel (k + 5) u' v') v v1) u v1 := by
  obtain ⟨q, r, mb, n, d, o, ph, wp, rp, oa, na, yx, yy, inp, rec, dcd, typ, ord, mod, vcs, nzs, str, isd, vct, bwd, prd, res, cof, lev, ypp, ypd, yzc, rfl, rfl, hL, hc⟩ := I
  have I' : i_Rel (k + 5) (nI q, nI r, nI mb, ph, nI n, nI d, nI o, wp, rp, oa, na, inp, rec, dcd, typ, ord, mod, vcs, nzs, str, isd, vct, bwd, prd, res, cof, lev) (nI q, nI r, nI mb, nI n, ph, nI d, yx, yy, inp, rec, ord, mod, vcs, nzs, ypp, ypd, yzc) := gv_rel hL hc
  have hn := hL.2.2.2.1
  refine gx_text hn (fun a b => gy_text hn (fun _ _ => ⟨rfl, gv_app hL hc a b (fun t _ => gv_tx_p _ _)⟩) (fun z => ?_)) (fun z => gy_text hn (fun a b => ?_) (fun _ => ⟨rfl, I'⟩))
  · rcases z with z | z
    · exact absurd a z
    · omega
  · rcases z with z | z
    · exact absurd a z
    · omega
theorem i_vc_appendMoved {k : Nat} {u : SX} {v : SY} (I : i_Rel k u v) (hk : k + 5 ≤ 2563) (v1 : Int32) (v2 : Int32) (v3 : Int32) (v4 : Int32) : wpX_appendMoved (fun r u' => wpY_appendMoved (fun r' v' => r' = r ∧ i_Rel (k + 5) u' v') v v1 v2 v3 v4) u v1 v2 v3 v4 := by
  obtain ⟨q, r, mb, n, d, o, ph, wp, rp, oa, na, yx, yy, inp, rec, dcd, typ, ord, mod, vcs, nzs, str, isd, vct, bwd, prd, res, cof, lev, ypp, ypd, yzc, rfl, rfl, hL, hc⟩ := I
  have I' : i_Rel (k + 5) (nI q, nI r, nI mb, ph, nI n, nI d, nI o, wp, rp, oa, na, inp, rec, dcd, typ, ord, mod, vcs, nzs, str, isd, vct, bwd, prd, res, cof, lev) (nI q, nI r, nI mb, nI n, ph, nI d, yx, yy, inp, rec, ord, mod, vcs, nzs, ypp, ypd, yzc) := gv_rel hL hc
  have hn := hL.2.2.2.1
  have X : ∀ s, n < 8 → s < n → v1 = nI s → (8 ≤ n ∨ v1 < 0 ∨ nI n ≤ v1) → False := by
    intro s h8 hs e z
    rcases z with z | z | z
    · omega
    · rw [e] at z; exact nI_pos (by omega) z
    · rw [e] at z; exact nI_ge hs (by omega) z
  refine gx_move hn (fun s a b hs es => gy_move hn (fun s' _ _ hs' es' => ?_) (fun z => ?_)) (fun z => gy_move hn (fun s a b hs es => ?_) (fun _ => ⟨rfl, I'⟩))
  · have e : s = s' := (nI_eq (by omega) (by omega)).mp (es.symm.trans es')
    subst e
    exact ⟨rfl, gv_app hL hc a b (fun t _ => gv_c255 _)⟩
  · rcases z with z | z
    · exact absurd a z
    · exact absurd z (X s b hs es)
  · rcases z with z | z
    · exact absurd a z
    · exact absurd z (X s b hs es)
theorem gx_bt {post : Int32 → Prop} {j c : Nat} (hj : j < c) (hc : c < 2 ^ 31) (h : post 1) : wpX_isBelow post (nI j) (nI c) := br_f (nI_pos (by omega)) (br_f (nI_ge hj hc) h)
theorem gx_bf {post : Int32 → Prop} {v : Int32} {c : Nat} (z : v < 0 ∨ nI c ≤ v) (h : post 0) : wpX_isBelow post v (nI c) := by
  refine br_c (fun _ => h) (fun a => br_c (fun _ => h) (fun b => ?_))
  rcases z with z | z
  · exact absurd z a
  · exact absurd z b
theorem gv_78 {x : Int32} (h : nI 8 ≤ x) : ¬ x < 0 ∧ 7 < x := by
  rw [gv_le, show (nI 8).toInt = 8 from by decide] at h
  rw [gv_lt, gv_lt, gv_i0, gv_i7]
  omega
theorem gv_n0 {x : Int32} {c : Nat} (hc : c < 2 ^ 31) (h : nI c ≤ x) : ¬ x < 0 := by
  rw [gv_le, nI_toInt hc] at h
  rw [gv_lt, gv_i0]
  omega
theorem gv_k7 {x : Nat} (hx : x < 8) : ¬ (7 : Int32) < nI x := nI_nlt (a := 7) (by omega) (by decide)
theorem i_vc_setPixel {k : Nat} {u : SX} {v : SY} (I : i_Rel k u v) (hk : k + 5 ≤ 2563) (v1 : Int32) (v2 : Int32) (v3 : Int32) (v4 : Int32) : wpX_setPixel (fun r u' => wpY_setPixel (fun r' v' => r' = r ∧ i_Rel (k + 5) u' v') v v1 v2 v3 v4) u v1 v2 v3 v4 := by
  obtain ⟨q, r, mb, n, d, o, ph, wp, rp, oa, na, yx, yy, inp, rec, dcd, typ, ord, mod, vcs, nzs, str, isd, vct, bwd, prd, res, cof, lev, ypp, ypd, yzc, rfl, rfl, hL, hc⟩ := I
  have I' : i_Rel (k + 5) (nI q, nI r, nI mb, ph, nI n, nI d, nI o, wp, rp, oa, na, inp, rec, dcd, typ, ord, mod, vcs, nzs, str, isd, vct, bwd, prd, res, cof, lev) (nI q, nI r, nI mb, nI n, ph, nI d, yx, yy, inp, rec, ord, mod, vcs, nzs, ypp, ypd, yzc) := gv_rel hL hc
  have hn := hL.2.2.2.1
  by_cases a : ph = 0
  case neg => exact br_f a (br_f a ⟨rfl, I'⟩)
  refine br_t a ?_
  rcases pk_ix v1 (n := n) (by omega) with z | z | ⟨f, hf, rfl⟩
  · exact gx_bf (Or.inl z) (br_t rfl (br_t a (br_t z ⟨rfl, I'⟩)))
  · exact gx_bf (Or.inr z) (br_t rfl (br_t a (br_f (gv_n0 (by omega) z) (br_f (Int32.not_lt.mpr z) ⟨rfl, I'⟩))))
  refine gx_bt hf (by omega) (br_f (by decide) ?_)
  have y1 : ¬ nI f < 0 := nI_pos (by omega)
  have y2 : nI f < nI n := nI_lt hf (by omega)
  rcases pk_ix v2 (n := 8) (by decide) with z | z | ⟨x, hx, rfl⟩
  · exact gx_bf (c := 8) (Or.inl z) (br_t rfl (br_t a (br_f y1 (br_t y2 (br_t z ⟨rfl, I'⟩)))))
  · exact gx_bf (c := 8) (Or.inr z) (br_t rfl (br_t a (br_f y1 (br_t y2 (br_f (gv_78 z).1 (br_t (gv_78 z).2 ⟨rfl, I'⟩))))))
  refine gx_bt (c := 8) hx (by decide) (br_f (by decide) ?_)
  have y3 : ¬ nI x < 0 := nI_pos (by omega)
  have y4 := gv_k7 hx
  rcases pk_ix v3 (n := 8) (by decide) with z | z | ⟨y, hy, rfl⟩
  · exact gx_bf (c := 8) (Or.inl z) (br_t rfl (br_t a (br_f y1 (br_t y2 (br_f y3 (br_f y4 (br_t z ⟨rfl, I'⟩)))))))
  · exact gx_bf (c := 8) (Or.inr z) (br_t rfl (br_t a (br_f y1 (br_t y2 (br_f y3 (br_f y4 (br_f (gv_78 z).1 (br_t (gv_78 z).2 ⟨rfl, I'⟩))))))))
  refine gx_bt (c := 8) hy (by decide) (br_f (by decide) ?_)
  have y5 : ¬ nI y < 0 := nI_pos (by omega)
  have y6 := gv_k7 hy
  by_cases c1 : v4 < 0
  · exact br_t c1 (br_t a (br_f y1 (br_t y2 (br_f y3 (br_f y4 (br_f y5 (br_f y6 (br_t c1 ⟨rfl, I'⟩))))))))
  refine br_f c1 ?_
  by_cases c2 : v4 ≤ 255
  case neg => exact br_f c2 (br_t a (br_f y1 (br_t y2 (br_f y3 (br_f y4 (br_f y5 (br_f y6 (br_f c1 (br_f c2 ⟨rfl, I'⟩)))))))))
  have e1 : vp_in (((nI f * 64) + (nI y * 8)) + nI x) 512 := by rw [gx_ld]; exact vp_in_nI (by omega) (by decide)
  refine br_t c2 ⟨e1, nm_e (br_t a (br_f y1 (br_t y2 (br_f y3 (br_f y4 (br_f y5 (br_f y6 (br_f c1 (br_t c2 ⟨e1, nm_e ⟨rfl, ?_⟩⟩)))))))))⟩
  obtain ⟨hq, hr, hm, hn, hi, hR⟩ := hL
  refine gv_rel ⟨hq, hr, hm, hn, gv_P_u hi ?_, hR⟩ hc
  rw [gv_lt, gv_i0] at c1
  rw [gv_le, gv_i255] at c2
  exact ⟨by omega, c2⟩
theorem i_vc_encode {k : Nat} {u : SX} {v : SY} (I : i_Rel k u v) (hk : k + 5 ≤ 2563) : wpX_encode (fun r u' => wpY_encode (fun r' v' => r' = r ∧ i_Rel (k + 5) u' v') v) u := by
  obtain ⟨q, r, mb, n, d, o, ph, wp, rp, oa, na, yx, yy, inp, rec, dcd, typ, ord, mod, vcs, nzs, str, isd, vct, bwd, prd, res, cof, lev, ypp, ypd, yzc, rfl, rfl, hL, hc⟩ := I
  have I' : i_Rel (k + 5) (nI q, nI r, nI mb, ph, nI n, nI d, nI o, wp, rp, oa, na, inp, rec, dcd, typ, ord, mod, vcs, nzs, str, isd, vct, bwd, prd, res, cof, lev) (nI q, nI r, nI mb, nI n, ph, nI d, yx, yy, inp, rec, ord, mod, vcs, nzs, ypp, ypd, yzc) := gv_rel hL hc
  by_cases a : ph = 0
  case neg => exact br_f a (br_f a ⟨rfl, I'⟩)
  subst a
  by_cases n0 : n = 0
  · subst n0; exact br_t rfl (br_t rfl (br_t rfl (br_t rfl ⟨rfl, I'⟩)))
  obtain ⟨⟨hq1, hq2⟩, hr, hm, hn, hi, hR⟩ := hL
  refine gx_encode hq1 hq2 hr hm hn (by omega) hi hR (fun s S vct bwd prd res cof lev es hP hJ => gy_encode hq1 hq2 hr hm hn (by omega) hi hR (fun s' yx yy ypp ypd yzc es' => ⟨rfl, ?_⟩))
  rw [← es] at es'
  subst es'
  refine gv_rel (d := 0) (o := 0) ⟨⟨hq1, hq2⟩, hr, hm, hn, hi, hP⟩ (Or.inr ⟨rfl, by omega, by omega, fun k hk => gv_wi_h hk, fun k hk => gv_wi_h hk, rfl, rfl, rfl, hJ, ⟨fun p hp => by omega, fun c hc => by omega⟩, ⟨by omega, fun k hk => by omega, fun _ => rfl⟩, fun k hk => ⟨fun _ => rfl, fun _ => gv_wi_h hk⟩⟩)
theorem i_vc_decodeNext {k : Nat} {u : SX} {v : SY} (I : i_Rel k u v) (hk : k + 5 ≤ 2563) : wpX_decodeNext (fun r u' => wpY_decodeNext (fun r' v' => r' = r ∧ i_Rel (k + 5) u' v') v) u := by
  obtain ⟨q, r, mb, n, d, o, ph, wp, rp, oa, na, yx, yy, inp, rec, dcd, typ, ord, mod, vcs, nzs, str, isd, vct, bwd, prd, res, cof, lev, ypp, ypd, yzc, rfl, rfl, hL, hc⟩ := I
  have I' : i_Rel (k + 5) (nI q, nI r, nI mb, ph, nI n, nI d, nI o, wp, rp, oa, na, inp, rec, dcd, typ, ord, mod, vcs, nzs, str, isd, vct, bwd, prd, res, cof, lev) (nI q, nI r, nI mb, nI n, ph, nI d, yx, yy, inp, rec, ord, mod, vcs, nzs, ypp, ypd, yzc) := gv_rel hL hc
  obtain ⟨⟨hq1, hq2⟩, hr, hm, hn, hi, hR⟩ := hL
  rcases hc with ⟨rfl, rfl, rfl⟩ | ⟨rfl, hC⟩
  · exact br_f (by decide) (br_f (by decide) ⟨rfl, I'⟩)
  obtain ⟨n1, dn, hT, hO, rfl, rfl, rfl, hJ, hD, hOC, hI⟩ := hC
  by_cases e : d = n
  · subst e
    exact br_t rfl (br_t rfl (br_t rfl (br_f (fun z => absurd z (nI_nlt (Nat.le_refl _) (by omega))) ⟨rfl, I'⟩)))
  refine gx_decodeNext hq1 hm hn (by omega) hJ hD hOC hI (fun o' D I vct bwd prd res cof lev HD HO HI => br_t rfl (br_t (nI_lt (by omega) (by omega)) ⟨vp_in_nI (by omega) (by decide), nm_e (nm_r (nI_1 d) ⟨?_, ?_⟩)⟩))
  · rw [nI_clamp (by omega), hO d (by omega)]
  · exact gv_rel ⟨⟨hq1, hq2⟩, hr, hm, hn, hi, hR⟩ (Or.inr ⟨rfl, n1, by omega, hT, hO, rfl, rfl, rfl, hJ, HD, HO, HI⟩)
