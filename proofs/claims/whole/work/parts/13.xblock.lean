/-! X: predict, quantise, rebuild, keepBlockData -/
theorem gx_c255 {post : Int32 → Prop} {v : Int32} (h : post (gv_cp v 0 255)) : wpX_clamp post v 0 255 := gx_clamp h
section
variable {qu rg bf ph fc dc oc wp rp oa na : Int32} {inp rec dcd typ ord mod vcs nzs str isd vct bwd prd res cof lev : Nat → Int32}
variable {f b : Nat}
theorem gx_p118_recon {post : SX → Prop} {A : gv_F} (hA : ∀ t, t < 16 → A t = (prd t + bwd t + 1) >>> ((1 : Int32) &&& 31)) (h : post (qu, rg, bf, ph, fc, dc, oc, wp, rp, oa, na, inp, rec, dcd, typ, ord, mod, vcs, nzs, str, isd, vct, bwd, gv_wi prd A 16, res, cof, lev)) :
    ∀ d i n, i + d = 16 → d < n → wX_predict__recon_118 post qu rg bf ph fc dc oc wp rp oa na n (nI i) inp rec dcd typ ord mod vcs nzs str isd vct bwd (gv_wi prd A i) res cof lev := by
  intro d
  induction d with
  | zero =>
    intro i n hi hn
    obtain ⟨n, rfl⟩ : ∃ m, n = m + 1 := ⟨n - 1, by omega⟩
    obtain rfl : i = 16 := by omega
    exact br_t (by decide) h
  | succ d ih =>
    intro i n hi hn
    obtain ⟨n, rfl⟩ : ∃ m, n = m + 1 := ⟨n - 1, by omega⟩
    have hv : vp_in (nI i) 16 := vp_in_nI (by omega) (by decide)
    refine br_f (nI_ge (b := 16) (by omega) (by decide)) ⟨hv, hv, hv, nm_r (e' := gv_wi prd A (i + 1)) ?_ (nm_r (nI_1 i) (ih (i + 1) n (by omega) (by omega)))⟩
    rw [nI_clamp (by omega), gv_wi_m (Nat.le_refl i), ← hA i (by omega)]
    rfl
theorem gx_p7_recon {post : SX → Prop} {b next : Nat} (h : post (qu, rg, bf, ph, fc, dc, oc, wp, rp, oa, na, inp, rec, dcd, typ, ord, mod, vcs, nzs, str, isd, vct, bwd, gv_wi prd (fun _ => 128) 16, res, cof, lev)) :
    ∀ d i n, i + d = 16 → d < n → wX_predict__recon_7 post (nI b) 0 (nI next) qu rg bf ph fc dc oc wp rp oa na n (nI i) inp rec dcd typ ord mod vcs nzs str isd vct bwd (gv_wi prd (fun _ => 128) i) res cof lev := by
  intro d
  induction d with
  | zero =>
    intro i n hi hn
    obtain ⟨n, rfl⟩ : ∃ m, n = m + 1 := ⟨n - 1, by omega⟩
    obtain rfl : i = 16 := by omega
    exact br_t (by decide) (br_f (by decide) h)
  | succ d ih =>
    intro i n hi hn
    obtain ⟨n, rfl⟩ : ∃ m, n = m + 1 := ⟨n - 1, by omega⟩
    refine br_f (nI_ge (b := 16) (by omega) (by decide)) ⟨vp_in_nI (by omega) (by decide), nm_r (e' := gv_wi prd (fun _ => 128) (i + 1)) ?_ (nm_r (nI_1 i) (ih (i + 1) n (by omega) (by omega)))⟩
    rw [nI_clamp (by omega)]
    rfl
theorem gx_pred_recon {post : SX → Prop} {m past next : Nat} (hb : b < 4) (hm : m < 4) (hp : past < 8) (hn : next < 8)
    (h : ∀ P Q : gv_F, (∀ t, t < 16 → P t = gv_pr rec b m vct past next t) → post (qu, rg, bf, ph, fc, dc, oc, wp, rp, oa, na, inp, rec, dcd, typ, ord, mod, vcs, nzs, str, isd, vct, Q, P, res, cof, lev)) : wpX_predict__recon post (qu, rg, bf, ph, fc, dc, oc, wp, rp, oa, na, inp, rec, dcd, typ, ord, mod, vcs, nzs, str, isd, vct, bwd, prd, res, cof, lev) (nI b) (nI m) (nI past) (nI next) := by
  rcases (by omega : m = 0 ∨ m = 1 ∨ m = 2 ∨ m = 3) with rfl | rfl | rfl | rfl
  · exact br_t rfl ⟨17, gx_p7_recon (h _ _ (fun t ht => gv_wi_h ht)) 16 0 17 rfl (by decide)⟩
  · exact br_f (by decide) (br_f (by decide) (gx_fetch_recon_prediction hp hb (fun P hP => br_f (by decide) (h _ _ hP))))
  · exact br_f (by decide) (br_t rfl (gx_fetch_recon_prediction hn hb (fun P hP => br_f (by decide) (h _ _ hP))))
  · refine br_f (by decide) (br_f (by decide) (gx_fetch_recon_prediction hp hb (fun P hP => br_t rfl (gx_fetch_recon_backward hn hb (fun Q hQ => ⟨17, gx_p118_recon (A := fun t => (P t + Q t + 1) >>> ((1 : Int32) &&& 31)) (fun _ _ => rfl) (h _ _ (fun t ht => ?_)) 16 0 17 rfl (by decide)⟩)))))
    rw [gv_wi_h ht]
    show (P t + Q t + 1) >>> _ = (gv_ft _ _ _ _ _ _ + gv_ft _ _ _ _ _ _ + 1) >>> _
    rw [hP t ht, hQ t ht]
theorem gx_r47_recon {post : SX → Prop} {P G : gv_F} (hf : f < 8) (hb : b < 4) (hP : ∀ t, t < 16 → gv_cp (prd t + ((res t + 8) >>> ((4 : Int32) &&& 31))) 0 255 = G t) (h : post (qu, rg, bf, ph, fc, dc, oc, wp, rp, oa, na, inp, gv_wr rec (fun t => f * 64 + gv_id b t) G 16, dcd, typ, ord, mod, vcs, nzs, str, isd, vct, bwd, prd, res, cof, lev)) :
    ∀ d i n, i + d = 16 → d < n → wX_rebuild__recon_47 post (nI f) (nI b) qu rg bf ph fc dc oc wp rp oa na n (nI i) inp (gv_wr rec (fun t => f * 64 + gv_id b t) G i) dcd typ ord mod vcs nzs str isd vct bwd prd res cof lev := by
  intro d
  induction d with
  | zero =>
    intro i n hi hn
    obtain ⟨n, rfl⟩ : ∃ m, n = m + 1 := ⟨n - 1, by omega⟩
    obtain rfl : i = 16 := by omega
    exact br_t (by decide) h
  | succ d ih =>
    intro i n hi hn
    obtain ⟨n, rfl⟩ : ∃ m, n = m + 1 := ⟨n - 1, by omega⟩
    have hv : vp_in (nI i) 16 := vp_in_nI (by omega) (by decide)
    have hpin := gv_pin hf hb (t := i) (by omega)
    refine br_f (nI_ge (b := 16) (by omega) (by decide)) (gx_place hb (by omega) ⟨hv, nm_e ⟨hv, gx_c255 ⟨vp_in_nI hpin (by decide), nm_r (e' := gv_wr rec (fun t => f * 64 + gv_id b t) G (i + 1)) ?_ (nm_r (nI_1 i) (ih (i + 1) n (by omega) (by omega)))⟩⟩⟩)
    rw [nI_clamp (by omega), nI_clamp (by omega), hP i (by omega)]
    rfl
theorem gx_r3_recon {post : SX → Prop} {q : Nat} {P L : gv_F} (hf : f < 8) (hb : b < 4) (hP : ∀ t, t < 16 → prd t = P t) (hL : ∀ t, t < 16 → lev t = L t)
    (h : ∀ A B : gv_F, post (qu, rg, bf, ph, fc, dc, oc, wp, rp, oa, na, inp, gv_wb rec f b (gv_rb P L q), dcd, typ, ord, mod, vcs, nzs, str, isd, vct, bwd, prd, A, B, lev)) :
    ∀ d i n, i + d = 16 → d < n → wX_rebuild__recon_3 post (nI f) (nI b) (nI q) qu rg bf ph fc dc oc wp rp oa na n (nI i) inp rec dcd typ ord mod vcs nzs str isd vct bwd prd res (gv_wi cof (fun t => lev t * nI q) i) lev := by
  intro d
  induction d with
  | zero =>
    intro i n hi hn
    obtain ⟨n, rfl⟩ : ∃ m, n = m + 1 := ⟨n - 1, by omega⟩
    obtain rfl : i = 16 := by omega
    refine br_t (by decide) (gx_trans_coefficients (fun A hA => ⟨17, gx_r47_recon (G := gv_rb P L q) (P := P) hf hb (fun t ht => ?_) (h _ _) 16 0 17 rfl (by decide)⟩))
    unfold gv_rb
    rw [hP t ht, hA t ht, gv_tr_c (G := fun s => L s * nI q) (fun s hs => by rw [gv_wi_h hs, hL s hs]) t]
  | succ d ih =>
    intro i n hi hn
    obtain ⟨n, rfl⟩ : ∃ m, n = m + 1 := ⟨n - 1, by omega⟩
    have hv : vp_in (nI i) 16 := vp_in_nI (by omega) (by decide)
    refine br_f (nI_ge (b := 16) (by omega) (by decide)) ⟨hv, hv, nm_r (e' := gv_wi cof (fun t => lev t * nI q) (i + 1)) ?_ (nm_r (nI_1 i) (ih (i + 1) n (by omega) (by omega)))⟩
    rw [nI_clamp (by omega)]
    rfl
theorem gx_rebuild_recon {post : SX → Prop} {q : Nat} {P L : gv_F} (hf : f < 8) (hb : b < 4) (hP : ∀ t, t < 16 → prd t = P t) (hL : ∀ t, t < 16 → lev t = L t)
    (h : ∀ A B : gv_F, post (qu, rg, bf, ph, fc, dc, oc, wp, rp, oa, na, inp, gv_wb rec f b (gv_rb P L q), dcd, typ, ord, mod, vcs, nzs, str, isd, vct, bwd, prd, A, B, lev)) : wpX_rebuild__recon post (qu, rg, bf, ph, fc, dc, oc, wp, rp, oa, na, inp, rec, dcd, typ, ord, mod, vcs, nzs, str, isd, vct, bwd, prd, res, cof, lev) (nI f) (nI b) (nI q) :=
  ⟨17, gx_r3_recon hf hb hP hL h 16 0 17 rfl (by decide)⟩
theorem gx_p118_decoded {post : SX → Prop} {A : gv_F} (hA : ∀ t, t < 16 → A t = (prd t + bwd t + 1) >>> ((1 : Int32) &&& 31)) (h : post (qu, rg, bf, ph, fc, dc, oc, wp, rp, oa, na, inp, rec, dcd, typ, ord, mod, vcs, nzs, str, isd, vct, bwd, gv_wi prd A 16, res, cof, lev)) :
    ∀ d i n, i + d = 16 → d < n → wX_predict__decoded_118 post qu rg bf ph fc dc oc wp rp oa na n (nI i) inp rec dcd typ ord mod vcs nzs str isd vct bwd (gv_wi prd A i) res cof lev := by
  intro d
  induction d with
  | zero =>
    intro i n hi hn
    obtain ⟨n, rfl⟩ : ∃ m, n = m + 1 := ⟨n - 1, by omega⟩
    obtain rfl : i = 16 := by omega
    exact br_t (by decide) h
  | succ d ih =>
    intro i n hi hn
    obtain ⟨n, rfl⟩ : ∃ m, n = m + 1 := ⟨n - 1, by omega⟩
    have hv : vp_in (nI i) 16 := vp_in_nI (by omega) (by decide)
    refine br_f (nI_ge (b := 16) (by omega) (by decide)) ⟨hv, hv, hv, nm_r (e' := gv_wi prd A (i + 1)) ?_ (nm_r (nI_1 i) (ih (i + 1) n (by omega) (by omega)))⟩
    rw [nI_clamp (by omega), gv_wi_m (Nat.le_refl i), ← hA i (by omega)]
    rfl
theorem gx_p7_decoded {post : SX → Prop} {b next : Nat} (h : post (qu, rg, bf, ph, fc, dc, oc, wp, rp, oa, na, inp, rec, dcd, typ, ord, mod, vcs, nzs, str, isd, vct, bwd, gv_wi prd (fun _ => 128) 16, res, cof, lev)) :
    ∀ d i n, i + d = 16 → d < n → wX_predict__decoded_7 post (nI b) 0 (nI next) qu rg bf ph fc dc oc wp rp oa na n (nI i) inp rec dcd typ ord mod vcs nzs str isd vct bwd (gv_wi prd (fun _ => 128) i) res cof lev := by
  intro d
  induction d with
  | zero =>
    intro i n hi hn
    obtain ⟨n, rfl⟩ : ∃ m, n = m + 1 := ⟨n - 1, by omega⟩
    obtain rfl : i = 16 := by omega
    exact br_t (by decide) (br_f (by decide) h)
  | succ d ih =>
    intro i n hi hn
    obtain ⟨n, rfl⟩ : ∃ m, n = m + 1 := ⟨n - 1, by omega⟩
    refine br_f (nI_ge (b := 16) (by omega) (by decide)) ⟨vp_in_nI (by omega) (by decide), nm_r (e' := gv_wi prd (fun _ => 128) (i + 1)) ?_ (nm_r (nI_1 i) (ih (i + 1) n (by omega) (by omega)))⟩
    rw [nI_clamp (by omega)]
    rfl
theorem gx_pred_decoded {post : SX → Prop} {m past next : Nat} (hb : b < 4) (hm : m < 4) (hp : past < 8) (hn : next < 8)
    (h : ∀ P Q : gv_F, (∀ t, t < 16 → P t = gv_pr dcd b m vct past next t) → post (qu, rg, bf, ph, fc, dc, oc, wp, rp, oa, na, inp, rec, dcd, typ, ord, mod, vcs, nzs, str, isd, vct, Q, P, res, cof, lev)) : wpX_predict__decoded post (qu, rg, bf, ph, fc, dc, oc, wp, rp, oa, na, inp, rec, dcd, typ, ord, mod, vcs, nzs, str, isd, vct, bwd, prd, res, cof, lev) (nI b) (nI m) (nI past) (nI next) := by
  rcases (by omega : m = 0 ∨ m = 1 ∨ m = 2 ∨ m = 3) with rfl | rfl | rfl | rfl
  · exact br_t rfl ⟨17, gx_p7_decoded (h _ _ (fun t ht => gv_wi_h ht)) 16 0 17 rfl (by decide)⟩
  · exact br_f (by decide) (br_f (by decide) (gx_fetch_decoded_prediction hp hb (fun P hP => br_f (by decide) (h _ _ hP))))
  · exact br_f (by decide) (br_t rfl (gx_fetch_decoded_prediction hn hb (fun P hP => br_f (by decide) (h _ _ hP))))
  · refine br_f (by decide) (br_f (by decide) (gx_fetch_decoded_prediction hp hb (fun P hP => br_t rfl (gx_fetch_decoded_backward hn hb (fun Q hQ => ⟨17, gx_p118_decoded (A := fun t => (P t + Q t + 1) >>> ((1 : Int32) &&& 31)) (fun _ _ => rfl) (h _ _ (fun t ht => ?_)) 16 0 17 rfl (by decide)⟩)))))
    rw [gv_wi_h ht]
    show (P t + Q t + 1) >>> _ = (gv_ft _ _ _ _ _ _ + gv_ft _ _ _ _ _ _ + 1) >>> _
    rw [hP t ht, hQ t ht]
theorem gx_r47_decoded {post : SX → Prop} {P G : gv_F} (hf : f < 8) (hb : b < 4) (hP : ∀ t, t < 16 → gv_cp (prd t + ((res t + 8) >>> ((4 : Int32) &&& 31))) 0 255 = G t) (h : post (qu, rg, bf, ph, fc, dc, oc, wp, rp, oa, na, inp, rec, gv_wr dcd (fun t => f * 64 + gv_id b t) G 16, typ, ord, mod, vcs, nzs, str, isd, vct, bwd, prd, res, cof, lev)) :
    ∀ d i n, i + d = 16 → d < n → wX_rebuild__decoded_47 post (nI f) (nI b) qu rg bf ph fc dc oc wp rp oa na n (nI i) inp rec (gv_wr dcd (fun t => f * 64 + gv_id b t) G i) typ ord mod vcs nzs str isd vct bwd prd res cof lev := by
  intro d
  induction d with
  | zero =>
    intro i n hi hn
    obtain ⟨n, rfl⟩ : ∃ m, n = m + 1 := ⟨n - 1, by omega⟩
    obtain rfl : i = 16 := by omega
    exact br_t (by decide) h
  | succ d ih =>
    intro i n hi hn
    obtain ⟨n, rfl⟩ : ∃ m, n = m + 1 := ⟨n - 1, by omega⟩
    have hv : vp_in (nI i) 16 := vp_in_nI (by omega) (by decide)
    have hpin := gv_pin hf hb (t := i) (by omega)
    refine br_f (nI_ge (b := 16) (by omega) (by decide)) (gx_place hb (by omega) ⟨hv, nm_e ⟨hv, gx_c255 ⟨vp_in_nI hpin (by decide), nm_r (e' := gv_wr dcd (fun t => f * 64 + gv_id b t) G (i + 1)) ?_ (nm_r (nI_1 i) (ih (i + 1) n (by omega) (by omega)))⟩⟩⟩)
    rw [nI_clamp (by omega), nI_clamp (by omega), hP i (by omega)]
    rfl
theorem gx_r3_decoded {post : SX → Prop} {q : Nat} {P L : gv_F} (hf : f < 8) (hb : b < 4) (hP : ∀ t, t < 16 → prd t = P t) (hL : ∀ t, t < 16 → lev t = L t)
    (h : ∀ A B : gv_F, post (qu, rg, bf, ph, fc, dc, oc, wp, rp, oa, na, inp, rec, gv_wb dcd f b (gv_rb P L q), typ, ord, mod, vcs, nzs, str, isd, vct, bwd, prd, A, B, lev)) :
    ∀ d i n, i + d = 16 → d < n → wX_rebuild__decoded_3 post (nI f) (nI b) (nI q) qu rg bf ph fc dc oc wp rp oa na n (nI i) inp rec dcd typ ord mod vcs nzs str isd vct bwd prd res (gv_wi cof (fun t => lev t * nI q) i) lev := by
  intro d
  induction d with
  | zero =>
    intro i n hi hn
    obtain ⟨n, rfl⟩ : ∃ m, n = m + 1 := ⟨n - 1, by omega⟩
    obtain rfl : i = 16 := by omega
    refine br_t (by decide) (gx_trans_coefficients (fun A hA => ⟨17, gx_r47_decoded (G := gv_rb P L q) (P := P) hf hb (fun t ht => ?_) (h _ _) 16 0 17 rfl (by decide)⟩))
    unfold gv_rb
    rw [hP t ht, hA t ht, gv_tr_c (G := fun s => L s * nI q) (fun s hs => by rw [gv_wi_h hs, hL s hs]) t]
  | succ d ih =>
    intro i n hi hn
    obtain ⟨n, rfl⟩ : ∃ m, n = m + 1 := ⟨n - 1, by omega⟩
    have hv : vp_in (nI i) 16 := vp_in_nI (by omega) (by decide)
    refine br_f (nI_ge (b := 16) (by omega) (by decide)) ⟨hv, hv, nm_r (e' := gv_wi cof (fun t => lev t * nI q) (i + 1)) ?_ (nm_r (nI_1 i) (ih (i + 1) n (by omega) (by omega)))⟩
    rw [nI_clamp (by omega)]
    rfl
theorem gx_rebuild_decoded {post : SX → Prop} {q : Nat} {P L : gv_F} (hf : f < 8) (hb : b < 4) (hP : ∀ t, t < 16 → prd t = P t) (hL : ∀ t, t < 16 → lev t = L t)
    (h : ∀ A B : gv_F, post (qu, rg, bf, ph, fc, dc, oc, wp, rp, oa, na, inp, rec, gv_wb dcd f b (gv_rb P L q), typ, ord, mod, vcs, nzs, str, isd, vct, bwd, prd, A, B, lev)) : wpX_rebuild__decoded post (qu, rg, bf, ph, fc, dc, oc, wp, rp, oa, na, inp, rec, dcd, typ, ord, mod, vcs, nzs, str, isd, vct, bwd, prd, res, cof, lev) (nI f) (nI b) (nI q) :=
  ⟨17, gx_r3_decoded hf hb hP hL h 16 0 17 rfl (by decide)⟩
theorem gx_q55 {post : SX → Prop} {q : Nat} {A : gv_F} (hq : 0 < q) (hq2 : q ≤ 64) (hA : ∀ t, t < 16 → gv_qt q (cof t) = A t) (h : post (nI q, rg, bf, ph, fc, dc, oc, wp, rp, oa, na, inp, rec, dcd, typ, ord, mod, vcs, nzs, str, isd, vct, bwd, prd, res, cof, gv_wi lev A 16)) :
    ∀ d i n, i + d = 16 → d < n → wX_quantise_55 post (nI q) rg bf ph fc dc oc wp rp oa na n (nI i) inp rec dcd typ ord mod vcs nzs str isd vct bwd prd res cof (gv_wi lev A i) := by
  intro d
  induction d with
  | zero =>
    intro i n hi hn
    obtain ⟨n, rfl⟩ : ∃ m, n = m + 1 := ⟨n - 1, by omega⟩
    obtain rfl : i = 16 := by omega
    exact br_t (by decide) h
  | succ d ih =>
    intro i n hi hn
    obtain ⟨n, rfl⟩ : ∃ m, n = m + 1 := ⟨n - 1, by omega⟩
    have hv : vp_in (nI i) 16 := vp_in_nI (by omega) (by decide)
    have e := hA i (by omega)
    refine br_f (nI_ge (b := 16) (by omega) (by decide)) ⟨hv, gx_abs ⟨by decide, nI_ne0 hq (by omega), nm_e ⟨hv, br_c (fun c => ⟨hv, nm_r (e' := gv_wi lev A (i + 1)) ?_ (nm_r (nI_1 i) (ih (i + 1) n (by omega) (by omega)))⟩) (fun c => ⟨hv, nm_r (e' := gv_wi lev A (i + 1)) ?_ (nm_r (nI_1 i) (ih (i + 1) n (by omega) (by omega)))⟩)⟩⟩⟩
    · rw [nI_clamp (by omega)] at c ⊢
      unfold gv_qt at e
      rw [if_neg (Int32.not_lt.mpr c)] at e
      rw [e]; rfl
    · rw [nI_clamp (by omega)] at c ⊢
      unfold gv_qt at e
      rw [if_pos (Int32.not_le.mp c)] at e
      rw [e]; rfl
theorem gx_q2 {post : SX → Prop} {q : Nat} {P : gv_F} (hq : 0 < q) (hq2 : q ≤ 64) (hf : f < 8) (hb : b < 4) (hP : ∀ t, t < 16 → prd t = P t)
    (h : ∀ A B L : gv_F, (∀ t, t < 16 → L t = gv_lv inp f b q P t) → post (nI q, rg, bf, ph, fc, dc, oc, wp, rp, oa, na, inp, rec, dcd, typ, ord, mod, vcs, nzs, str, isd, vct, bwd, prd, A, B, L)) :
    ∀ d i n, i + d = 16 → d < n → wX_quantise_2 post (nI f) (nI b) (nI q) rg bf ph fc dc oc wp rp oa na n (nI i) inp rec dcd typ ord mod vcs nzs str isd vct bwd prd (gv_wi res (gv_rs inp f b P) i) cof lev := by
  intro d
  induction d with
  | zero =>
    intro i n hi hn
    obtain ⟨n, rfl⟩ : ∃ m, n = m + 1 := ⟨n - 1, by omega⟩
    obtain rfl : i = 16 := by omega
    refine br_t (by decide) (gx_trans_residual (fun C hC => ⟨17, gx_q55 (A := gv_lv inp f b q P) hq hq2 (fun t ht => ?_) (h _ _ _ (fun t ht => gv_wi_h ht)) 16 0 17 rfl (by decide)⟩))
    unfold gv_lv
    rw [hC t ht, gv_tr_c (G := gv_rs inp f b P) (fun s hs => gv_wi_h hs) t]
  | succ d ih =>
    intro i n hi hn
    obtain ⟨n, rfl⟩ : ∃ m, n = m + 1 := ⟨n - 1, by omega⟩
    have hv : vp_in (nI i) 16 := vp_in_nI (by omega) (by decide)
    have hpin := gv_pin hf hb (t := i) (by omega)
    refine br_f (nI_ge (b := 16) (by omega) (by decide)) (gx_place hb (by omega) ⟨vp_in_nI hpin (by decide), hv, hv, nm_r (e' := gv_wi res (gv_rs inp f b P) (i + 1)) ?_ (nm_r (nI_1 i) (ih (i + 1) n (by omega) (by omega)))⟩)
    rw [nI_clamp (by omega), nI_clamp (by omega), hP i (by omega)]
    rfl
theorem gx_quant {post : SX → Prop} {q : Nat} {P : gv_F} (hq : 0 < q) (hq2 : q ≤ 64) (hf : f < 8) (hb : b < 4) (hP : ∀ t, t < 16 → prd t = P t)
    (h : ∀ A B L : gv_F, (∀ t, t < 16 → L t = gv_lv inp f b q P t) → post (nI q, rg, bf, ph, fc, dc, oc, wp, rp, oa, na, inp, rec, dcd, typ, ord, mod, vcs, nzs, str, isd, vct, bwd, prd, A, B, L)) : wpX_quantise post (nI q, rg, bf, ph, fc, dc, oc, wp, rp, oa, na, inp, rec, dcd, typ, ord, mod, vcs, nzs, str, isd, vct, bwd, prd, res, cof, lev) (nI f) (nI b) :=
  ⟨17, gx_q2 hq hq2 hf hb hP h 16 0 17 rfl (by decide)⟩
theorem gx_k55 {post : SX → Prop} {k : Nat} {L : gv_F} (hk : k < 32) (hL : ∀ t, t < 16 → lev t = L t) (h : post (qu, rg, bf, ph, fc, dc, oc, wp, rp, oa, na, inp, rec, dcd, typ, ord, mod, vcs, upd nzs k (gv_nz L), str, isd, vct, bwd, prd, res, cof, lev)) :
    ∀ d i n, i + d = 16 → d < n → wX_keepBlockData_55 post (nI k) qu rg bf ph fc dc oc wp rp oa na inp rec dcd typ ord mod vcs nzs str isd vct bwd prd res cof lev n (gv_sm (fun t => if L t = 0 then 0 else 1) i) (nI i) := by
  intro d
  induction d with
  | zero =>
    intro i n hi hn
    obtain ⟨n, rfl⟩ : ∃ m, n = m + 1 := ⟨n - 1, by omega⟩
    obtain rfl : i = 16 := by omega
    refine br_t (by decide) ⟨vp_in_nI hk (by decide), nm_r (e' := upd nzs k (gv_nz L)) ?_ h⟩
    rw [nI_clamp (by omega)]
    rfl
  | succ d ih =>
    intro i n hi hn
    obtain ⟨n, rfl⟩ : ∃ m, n = m + 1 := ⟨n - 1, by omega⟩
    have hv : vp_in (nI i) 16 := vp_in_nI (by omega) (by decide)
    have I := ih (i + 1) n (by omega) (by omega)
    have e := hL i (by omega)
    refine br_f (nI_ge (b := 16) (by omega) (by decide)) ⟨hv, br_c (fun c => nm_r (nI_1 i) ?_) (fun c => nm_e (nm_r (nI_1 i) ?_))⟩
    · rw [nI_clamp (by omega), e] at c
      rw [← gv_sm_s, if_pos c, Int32.add_zero] at I
      exact I
    · rw [nI_clamp (by omega), e] at c
      rw [← gv_sm_s, if_neg c] at I
      exact I
theorem gx_k18 {post : SX → Prop} {k : Nat} {L : gv_F} (hk : k < 32) (hL : ∀ t, t < 16 → lev t = L t) (h : post (qu, rg, bf, ph, fc, dc, oc, wp, rp, oa, na, inp, rec, dcd, typ, ord, mod, gv_w4 vcs k vct, upd nzs k (gv_nz L), str, isd, vct, bwd, prd, res, cof, lev)) :
    ∀ d i n, i + d = 4 → d < n → wX_keepBlockData_18 post (nI k) qu rg bf ph fc dc oc wp rp oa na n (nI i) inp rec dcd typ ord mod (gv_wr vcs (fun c => k * 4 + c) vct i) nzs str isd vct bwd prd res cof lev := by
  intro d
  induction d with
  | zero =>
    intro i n hi hn
    obtain ⟨n, rfl⟩ : ∃ m, n = m + 1 := ⟨n - 1, by omega⟩
    obtain rfl : i = 4 := by omega
    exact br_t (by decide) ⟨17, gx_k55 hk hL h 16 0 17 rfl (by decide)⟩
  | succ d ih =>
    intro i n hi hn
    obtain ⟨n, rfl⟩ : ∃ m, n = m + 1 := ⟨n - 1, by omega⟩
    refine br_f (nI_ge (b := 4) (by omega) (by decide)) ⟨vp_in_nI (by omega) (by decide), ?_, nm_r (e' := gv_wr vcs (fun c => k * 4 + c) vct (i + 1)) ?_ (nm_r (nI_1 i) (ih (i + 1) n (by omega) (by omega)))⟩
    · rw [gx_4]; exact vp_in_nI (by omega) (by decide)
    · rw [gx_4, nI_clamp (by omega), nI_clamp (by omega)]
      rfl
theorem gx_keep {post : SX → Prop} {m : Nat} {L : gv_F} (hf : f < 8) (hb : b < 4) (hL : ∀ t, t < 16 → lev t = L t)
    (h : post (qu, rg, bf, ph, fc, dc, oc, wp, rp, oa, na, inp, rec, dcd, typ, ord, upd mod (f * 4 + b) (nI m), gv_w4 vcs (f * 4 + b) vct, upd nzs (f * 4 + b) (gv_nz L), str, isd, vct, bwd, prd, res, cof, lev)) : wpX_keepBlockData post (qu, rg, bf, ph, fc, dc, oc, wp, rp, oa, na, inp, rec, dcd, typ, ord, mod, vcs, nzs, str, isd, vct, bwd, prd, res, cof, lev) (nI f) (nI b) (nI m) := by
  refine nm_r gx_4 ⟨vp_in_nI (by omega) (by decide), nm_r (e' := upd mod (f * 4 + b) (nI m)) ?_ ⟨5, gx_k18 (by omega) hL h 4 0 5 rfl (by decide)⟩⟩
  rw [nI_clamp (by omega)]
end
