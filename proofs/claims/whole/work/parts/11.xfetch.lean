/-! X: fetchBlock, four prints -/
theorem gx_c7 {post : Int32 → Prop} {v w : Int32} (e : v = w) (h : post (nI (gv_c7 w))) : wpX_clamp post v 0 7 := by
  subst e
  refine gx_clamp ?_
  rw [(gv_c7_e v).1]
  exact h
theorem gv_ft_ij {R : gv_F} {f b i j : Nat} {vx vy : Int32} (hj : j < 4) : gv_ft R f b vx vy (i * 4 + j) = R (f * 64 + gv_c7 (nI (4 * (b / 2) + i) + vy) * 8 + gv_c7 (nI (4 * (b % 2) + j) + vx)) := by
  unfold gv_ft
  rw [show (i * 4 + j) / 4 = i by omega, show (i * 4 + j) % 4 = j by omega]
theorem gv_pin2 {f y x : Nat} (hf : f < 8) (hy : y < 8) (hx : x < 8) : f * 64 + y * 8 + x < 512 := by omega
section
variable {qu rg bf ph fc dc oc wp rp oa na : Int32} {inp rec dcd typ ord mod vcs nzs str isd vct bwd prd res cof lev : Nat → Int32}
variable {f b : Nat} {vx vy : Int32}
theorem gx_f42_recon_prediction {post : SX → Prop} {JJ : Int32 → gv_F → gv_F → gv_F → gv_F → gv_F → gv_F → gv_F → gv_F → gv_F → gv_F → gv_F → gv_F → gv_F → gv_F → gv_F → gv_F →  Prop} (hf : f < 8) {i : Nat} (hi : i < 4)
    (h : JJ (nI (i + 1)) inp rec dcd typ ord mod vcs nzs str isd vct bwd (gv_wi prd (gv_ft rec f b vx vy) ((i + 1) * 4)) res cof lev) :
    ∀ d j n, j + d = 4 → d < n → wX_fetchBlock__recon_prediction_42 post JJ (nI f) vx vy (nI (4 * (b % 2))) (nI (4 * (b / 2))) (nI i) (nI (gv_c7 (nI (4 * (b / 2) + i) + vy))) qu rg bf ph fc dc oc wp rp oa na n (nI j) inp rec dcd typ ord mod vcs nzs str isd vct bwd (gv_wi prd (gv_ft rec f b vx vy) (i * 4 + j)) res cof lev := by
  intro d
  induction d with
  | zero =>
    intro j n hj hn
    obtain ⟨n, rfl⟩ : ∃ m, n = m + 1 := ⟨n - 1, by omega⟩
    obtain rfl : j = 4 := by omega
    rw [Nat.succ_mul] at h
    exact br_t (by decide) (nm_r (nI_1 i) h)
  | succ d ih =>
    intro j n hj hn
    obtain ⟨n, rfl⟩ : ∃ m, n = m + 1 := ⟨n - 1, by omega⟩
    have p1 := gv_pin2 hf (gv_c7_e (nI (4 * (b / 2) + i) + vy)).2 (gv_c7_e (nI (4 * (b % 2) + j) + vx)).2
    refine br_f (nI_ge (b := 4) (by omega) (by decide)) (gx_c7 (w := nI (4 * (b % 2) + j) + vx) (by rw [nI_add]) ⟨?_, ?_, nm_r (e' := gv_wi prd (gv_ft rec f b vx vy) (i * 4 + (j + 1))) ?_ (nm_r (nI_1 j) (ih (j + 1) n (by omega) (by omega)))⟩)
    · rw [gx_ld]; exact vp_in_nI p1 (by decide)
    · rw [gx_4]; exact vp_in_nI (by omega) (by decide)
    · rw [gx_ld, gx_4, nI_clamp (by omega), nI_clamp (by omega), ← gv_ft_ij (R := rec) (f := f) (b := b) (i := i) (j := j) (vx := vx) (vy := vy) (by omega)]
      rfl
theorem gx_f17_recon_prediction {post : SX → Prop} (hf : f < 8) (h : post (qu, rg, bf, ph, fc, dc, oc, wp, rp, oa, na, inp, rec, dcd, typ, ord, mod, vcs, nzs, str, isd, vct, bwd, gv_wi prd (gv_ft rec f b vx vy) 16, res, cof, lev)) :
    ∀ d i n, i + d = 4 → d < n → wX_fetchBlock__recon_prediction_17 post (nI f) vx vy (nI (4 * (b % 2))) (nI (4 * (b / 2))) qu rg bf ph fc dc oc wp rp oa na n (nI i) inp rec dcd typ ord mod vcs nzs str isd vct bwd (gv_wi prd (gv_ft rec f b vx vy) (i * 4)) res cof lev := by
  intro d
  induction d with
  | zero =>
    intro i n hi hn
    obtain ⟨n, rfl⟩ : ∃ m, n = m + 1 := ⟨n - 1, by omega⟩
    obtain rfl : i = 4 := by omega
    exact br_t (by decide) h
  | succ d ih =>
    intro i n hi hn
    obtain ⟨n, rfl⟩ : ∃ m, n = m + 1 := ⟨n - 1, by omega⟩
    exact br_f (nI_ge (b := 4) (by omega) (by decide)) (gx_c7 (w := nI (4 * (b / 2) + i) + vy) (by rw [nI_add]) ⟨5, gx_f42_recon_prediction hf (by omega) (ih (i + 1) n (by omega) (by omega)) 4 0 5 rfl (by decide)⟩)
theorem gx_fetch_recon_prediction {post : SX → Prop} (hf : f < 8) (hb : b < 4) (h : ∀ P : gv_F, (∀ t, t < 16 → P t = gv_ft rec f b vx vy t) → post (qu, rg, bf, ph, fc, dc, oc, wp, rp, oa, na, inp, rec, dcd, typ, ord, mod, vcs, nzs, str, isd, vct, bwd, P, res, cof, lev)) : wpX_fetchBlock__recon_prediction post (qu, rg, bf, ph, fc, dc, oc, wp, rp, oa, na, inp, rec, dcd, typ, ord, mod, vcs, nzs, str, isd, vct, bwd, prd, res, cof, lev) (nI f) (nI b) vx vy :=
  ⟨by decide, nm_r (gx_lft b hb).1 ⟨by decide, nm_r (gx_lft b hb).2 ⟨5, gx_f17_recon_prediction hf (h _ (fun t ht => gv_wi_h ht)) 4 0 5 rfl (by decide)⟩⟩⟩
theorem gx_f42_recon_backward {post : SX → Prop} {JJ : Int32 → gv_F → gv_F → gv_F → gv_F → gv_F → gv_F → gv_F → gv_F → gv_F → gv_F → gv_F → gv_F → gv_F → gv_F → gv_F → gv_F →  Prop} (hf : f < 8) {i : Nat} (hi : i < 4)
    (h : JJ (nI (i + 1)) inp rec dcd typ ord mod vcs nzs str isd vct (gv_wi bwd (gv_ft rec f b vx vy) ((i + 1) * 4)) prd res cof lev) :
    ∀ d j n, j + d = 4 → d < n → wX_fetchBlock__recon_backward_42 post JJ (nI f) vx vy (nI (4 * (b % 2))) (nI (4 * (b / 2))) (nI i) (nI (gv_c7 (nI (4 * (b / 2) + i) + vy))) qu rg bf ph fc dc oc wp rp oa na n (nI j) inp rec dcd typ ord mod vcs nzs str isd vct (gv_wi bwd (gv_ft rec f b vx vy) (i * 4 + j)) prd res cof lev := by
  intro d
  induction d with
  | zero =>
    intro j n hj hn
    obtain ⟨n, rfl⟩ : ∃ m, n = m + 1 := ⟨n - 1, by omega⟩
    obtain rfl : j = 4 := by omega
    rw [Nat.succ_mul] at h
    exact br_t (by decide) (nm_r (nI_1 i) h)
  | succ d ih =>
    intro j n hj hn
    obtain ⟨n, rfl⟩ : ∃ m, n = m + 1 := ⟨n - 1, by omega⟩
    have p1 := gv_pin2 hf (gv_c7_e (nI (4 * (b / 2) + i) + vy)).2 (gv_c7_e (nI (4 * (b % 2) + j) + vx)).2
    refine br_f (nI_ge (b := 4) (by omega) (by decide)) (gx_c7 (w := nI (4 * (b % 2) + j) + vx) (by rw [nI_add]) ⟨?_, ?_, nm_r (e' := gv_wi bwd (gv_ft rec f b vx vy) (i * 4 + (j + 1))) ?_ (nm_r (nI_1 j) (ih (j + 1) n (by omega) (by omega)))⟩)
    · rw [gx_ld]; exact vp_in_nI p1 (by decide)
    · rw [gx_4]; exact vp_in_nI (by omega) (by decide)
    · rw [gx_ld, gx_4, nI_clamp (by omega), nI_clamp (by omega), ← gv_ft_ij (R := rec) (f := f) (b := b) (i := i) (j := j) (vx := vx) (vy := vy) (by omega)]
      rfl
theorem gx_f17_recon_backward {post : SX → Prop} (hf : f < 8) (h : post (qu, rg, bf, ph, fc, dc, oc, wp, rp, oa, na, inp, rec, dcd, typ, ord, mod, vcs, nzs, str, isd, vct, gv_wi bwd (gv_ft rec f b vx vy) 16, prd, res, cof, lev)) :
    ∀ d i n, i + d = 4 → d < n → wX_fetchBlock__recon_backward_17 post (nI f) vx vy (nI (4 * (b % 2))) (nI (4 * (b / 2))) qu rg bf ph fc dc oc wp rp oa na n (nI i) inp rec dcd typ ord mod vcs nzs str isd vct (gv_wi bwd (gv_ft rec f b vx vy) (i * 4)) prd res cof lev := by
  intro d
  induction d with
  | zero =>
    intro i n hi hn
    obtain ⟨n, rfl⟩ : ∃ m, n = m + 1 := ⟨n - 1, by omega⟩
    obtain rfl : i = 4 := by omega
    exact br_t (by decide) h
  | succ d ih =>
    intro i n hi hn
    obtain ⟨n, rfl⟩ : ∃ m, n = m + 1 := ⟨n - 1, by omega⟩
    exact br_f (nI_ge (b := 4) (by omega) (by decide)) (gx_c7 (w := nI (4 * (b / 2) + i) + vy) (by rw [nI_add]) ⟨5, gx_f42_recon_backward hf (by omega) (ih (i + 1) n (by omega) (by omega)) 4 0 5 rfl (by decide)⟩)
theorem gx_fetch_recon_backward {post : SX → Prop} (hf : f < 8) (hb : b < 4) (h : ∀ P : gv_F, (∀ t, t < 16 → P t = gv_ft rec f b vx vy t) → post (qu, rg, bf, ph, fc, dc, oc, wp, rp, oa, na, inp, rec, dcd, typ, ord, mod, vcs, nzs, str, isd, vct, P, prd, res, cof, lev)) : wpX_fetchBlock__recon_backward post (qu, rg, bf, ph, fc, dc, oc, wp, rp, oa, na, inp, rec, dcd, typ, ord, mod, vcs, nzs, str, isd, vct, bwd, prd, res, cof, lev) (nI f) (nI b) vx vy :=
  ⟨by decide, nm_r (gx_lft b hb).1 ⟨by decide, nm_r (gx_lft b hb).2 ⟨5, gx_f17_recon_backward hf (h _ (fun t ht => gv_wi_h ht)) 4 0 5 rfl (by decide)⟩⟩⟩
theorem gx_f42_decoded_prediction {post : SX → Prop} {JJ : Int32 → gv_F → gv_F → gv_F → gv_F → gv_F → gv_F → gv_F → gv_F → gv_F → gv_F → gv_F → gv_F → gv_F → gv_F → gv_F → gv_F →  Prop} (hf : f < 8) {i : Nat} (hi : i < 4)
    (h : JJ (nI (i + 1)) inp rec dcd typ ord mod vcs nzs str isd vct bwd (gv_wi prd (gv_ft dcd f b vx vy) ((i + 1) * 4)) res cof lev) :
    ∀ d j n, j + d = 4 → d < n → wX_fetchBlock__decoded_prediction_42 post JJ (nI f) vx vy (nI (4 * (b % 2))) (nI (4 * (b / 2))) (nI i) (nI (gv_c7 (nI (4 * (b / 2) + i) + vy))) qu rg bf ph fc dc oc wp rp oa na n (nI j) inp rec dcd typ ord mod vcs nzs str isd vct bwd (gv_wi prd (gv_ft dcd f b vx vy) (i * 4 + j)) res cof lev := by
  intro d
  induction d with
  | zero =>
    intro j n hj hn
    obtain ⟨n, rfl⟩ : ∃ m, n = m + 1 := ⟨n - 1, by omega⟩
    obtain rfl : j = 4 := by omega
    rw [Nat.succ_mul] at h
    exact br_t (by decide) (nm_r (nI_1 i) h)
  | succ d ih =>
    intro j n hj hn
    obtain ⟨n, rfl⟩ : ∃ m, n = m + 1 := ⟨n - 1, by omega⟩
    have p1 := gv_pin2 hf (gv_c7_e (nI (4 * (b / 2) + i) + vy)).2 (gv_c7_e (nI (4 * (b % 2) + j) + vx)).2
    refine br_f (nI_ge (b := 4) (by omega) (by decide)) (gx_c7 (w := nI (4 * (b % 2) + j) + vx) (by rw [nI_add]) ⟨?_, ?_, nm_r (e' := gv_wi prd (gv_ft dcd f b vx vy) (i * 4 + (j + 1))) ?_ (nm_r (nI_1 j) (ih (j + 1) n (by omega) (by omega)))⟩)
    · rw [gx_ld]; exact vp_in_nI p1 (by decide)
    · rw [gx_4]; exact vp_in_nI (by omega) (by decide)
    · rw [gx_ld, gx_4, nI_clamp (by omega), nI_clamp (by omega), ← gv_ft_ij (R := dcd) (f := f) (b := b) (i := i) (j := j) (vx := vx) (vy := vy) (by omega)]
      rfl
theorem gx_f17_decoded_prediction {post : SX → Prop} (hf : f < 8) (h : post (qu, rg, bf, ph, fc, dc, oc, wp, rp, oa, na, inp, rec, dcd, typ, ord, mod, vcs, nzs, str, isd, vct, bwd, gv_wi prd (gv_ft dcd f b vx vy) 16, res, cof, lev)) :
    ∀ d i n, i + d = 4 → d < n → wX_fetchBlock__decoded_prediction_17 post (nI f) vx vy (nI (4 * (b % 2))) (nI (4 * (b / 2))) qu rg bf ph fc dc oc wp rp oa na n (nI i) inp rec dcd typ ord mod vcs nzs str isd vct bwd (gv_wi prd (gv_ft dcd f b vx vy) (i * 4)) res cof lev := by
  intro d
  induction d with
  | zero =>
    intro i n hi hn
    obtain ⟨n, rfl⟩ : ∃ m, n = m + 1 := ⟨n - 1, by omega⟩
    obtain rfl : i = 4 := by omega
    exact br_t (by decide) h
  | succ d ih =>
    intro i n hi hn
    obtain ⟨n, rfl⟩ : ∃ m, n = m + 1 := ⟨n - 1, by omega⟩
    exact br_f (nI_ge (b := 4) (by omega) (by decide)) (gx_c7 (w := nI (4 * (b / 2) + i) + vy) (by rw [nI_add]) ⟨5, gx_f42_decoded_prediction hf (by omega) (ih (i + 1) n (by omega) (by omega)) 4 0 5 rfl (by decide)⟩)
theorem gx_fetch_decoded_prediction {post : SX → Prop} (hf : f < 8) (hb : b < 4) (h : ∀ P : gv_F, (∀ t, t < 16 → P t = gv_ft dcd f b vx vy t) → post (qu, rg, bf, ph, fc, dc, oc, wp, rp, oa, na, inp, rec, dcd, typ, ord, mod, vcs, nzs, str, isd, vct, bwd, P, res, cof, lev)) : wpX_fetchBlock__decoded_prediction post (qu, rg, bf, ph, fc, dc, oc, wp, rp, oa, na, inp, rec, dcd, typ, ord, mod, vcs, nzs, str, isd, vct, bwd, prd, res, cof, lev) (nI f) (nI b) vx vy :=
  ⟨by decide, nm_r (gx_lft b hb).1 ⟨by decide, nm_r (gx_lft b hb).2 ⟨5, gx_f17_decoded_prediction hf (h _ (fun t ht => gv_wi_h ht)) 4 0 5 rfl (by decide)⟩⟩⟩
theorem gx_f42_decoded_backward {post : SX → Prop} {JJ : Int32 → gv_F → gv_F → gv_F → gv_F → gv_F → gv_F → gv_F → gv_F → gv_F → gv_F → gv_F → gv_F → gv_F → gv_F → gv_F → gv_F →  Prop} (hf : f < 8) {i : Nat} (hi : i < 4)
    (h : JJ (nI (i + 1)) inp rec dcd typ ord mod vcs nzs str isd vct (gv_wi bwd (gv_ft dcd f b vx vy) ((i + 1) * 4)) prd res cof lev) :
    ∀ d j n, j + d = 4 → d < n → wX_fetchBlock__decoded_backward_42 post JJ (nI f) vx vy (nI (4 * (b % 2))) (nI (4 * (b / 2))) (nI i) (nI (gv_c7 (nI (4 * (b / 2) + i) + vy))) qu rg bf ph fc dc oc wp rp oa na n (nI j) inp rec dcd typ ord mod vcs nzs str isd vct (gv_wi bwd (gv_ft dcd f b vx vy) (i * 4 + j)) prd res cof lev := by
  intro d
  induction d with
  | zero =>
    intro j n hj hn
    obtain ⟨n, rfl⟩ : ∃ m, n = m + 1 := ⟨n - 1, by omega⟩
    obtain rfl : j = 4 := by omega
    rw [Nat.succ_mul] at h
    exact br_t (by decide) (nm_r (nI_1 i) h)
  | succ d ih =>
    intro j n hj hn
    obtain ⟨n, rfl⟩ : ∃ m, n = m + 1 := ⟨n - 1, by omega⟩
    have p1 := gv_pin2 hf (gv_c7_e (nI (4 * (b / 2) + i) + vy)).2 (gv_c7_e (nI (4 * (b % 2) + j) + vx)).2
    refine br_f (nI_ge (b := 4) (by omega) (by decide)) (gx_c7 (w := nI (4 * (b % 2) + j) + vx) (by rw [nI_add]) ⟨?_, ?_, nm_r (e' := gv_wi bwd (gv_ft dcd f b vx vy) (i * 4 + (j + 1))) ?_ (nm_r (nI_1 j) (ih (j + 1) n (by omega) (by omega)))⟩)
    · rw [gx_ld]; exact vp_in_nI p1 (by decide)
    · rw [gx_4]; exact vp_in_nI (by omega) (by decide)
    · rw [gx_ld, gx_4, nI_clamp (by omega), nI_clamp (by omega), ← gv_ft_ij (R := dcd) (f := f) (b := b) (i := i) (j := j) (vx := vx) (vy := vy) (by omega)]
      rfl
theorem gx_f17_decoded_backward {post : SX → Prop} (hf : f < 8) (h : post (qu, rg, bf, ph, fc, dc, oc, wp, rp, oa, na, inp, rec, dcd, typ, ord, mod, vcs, nzs, str, isd, vct, gv_wi bwd (gv_ft dcd f b vx vy) 16, prd, res, cof, lev)) :
    ∀ d i n, i + d = 4 → d < n → wX_fetchBlock__decoded_backward_17 post (nI f) vx vy (nI (4 * (b % 2))) (nI (4 * (b / 2))) qu rg bf ph fc dc oc wp rp oa na n (nI i) inp rec dcd typ ord mod vcs nzs str isd vct (gv_wi bwd (gv_ft dcd f b vx vy) (i * 4)) prd res cof lev := by
  intro d
  induction d with
  | zero =>
    intro i n hi hn
    obtain ⟨n, rfl⟩ : ∃ m, n = m + 1 := ⟨n - 1, by omega⟩
    obtain rfl : i = 4 := by omega
    exact br_t (by decide) h
  | succ d ih =>
    intro i n hi hn
    obtain ⟨n, rfl⟩ : ∃ m, n = m + 1 := ⟨n - 1, by omega⟩
    exact br_f (nI_ge (b := 4) (by omega) (by decide)) (gx_c7 (w := nI (4 * (b / 2) + i) + vy) (by rw [nI_add]) ⟨5, gx_f42_decoded_backward hf (by omega) (ih (i + 1) n (by omega) (by omega)) 4 0 5 rfl (by decide)⟩)
theorem gx_fetch_decoded_backward {post : SX → Prop} (hf : f < 8) (hb : b < 4) (h : ∀ P : gv_F, (∀ t, t < 16 → P t = gv_ft dcd f b vx vy t) → post (qu, rg, bf, ph, fc, dc, oc, wp, rp, oa, na, inp, rec, dcd, typ, ord, mod, vcs, nzs, str, isd, vct, P, prd, res, cof, lev)) : wpX_fetchBlock__decoded_backward post (qu, rg, bf, ph, fc, dc, oc, wp, rp, oa, na, inp, rec, dcd, typ, ord, mod, vcs, nzs, str, isd, vct, bwd, prd, res, cof, lev) (nI f) (nI b) vx vy :=
  ⟨by decide, nm_r (gx_lft b hb).1 ⟨by decide, nm_r (gx_lft b hb).2 ⟨5, gx_f17_decoded_backward hf (h _ (fun t ht => gv_wi_h ht)) 4 0 5 rfl (by decide)⟩⟩⟩
end
