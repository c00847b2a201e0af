/-! Y: sad, search, fill, biSad, setPred, fwd, inv -/
theorem gy_xy : ∀ b, b < 4 → ∀ t, t < 16 → (4 * (nI b - nI b / 2 * 2)) + (nI t - nI t / 4 * 4) = nI (4 * (b % 2) + t % 4) ∧ (4 * (nI b / 2)) + (nI t / 4) = nI (4 * (b / 2) + t / 4) := by decide +kernel
theorem gy_t4 : ∀ t, t < 16 → nI t / 4 = nI (t / 4) ∧ nI t - nI t / 4 * 4 = nI (t % 4) := by decide +kernel
theorem gv_id_e (f b t : Nat) : f * 64 + (4 * (b / 2) + t / 4) * 8 + (4 * (b % 2) + t % 4) = f * 64 + gv_id b t := by unfold gv_id; omega
theorem gv_ln_e (r i : Nat) : gv_ln r i = gv_ab (gv_vx r i) + gv_ab (gv_vy r i) := rfl
def gv_YS (C L : gv_F) (r i : Nat) (x4 bx bY : Int32) : Prop := (i = 0 ∧ x4 = -1) ∨ (0 < i ∧ x4 = C (gv_bi C L i) ∧ bx = gv_vx r (gv_bi C L i) ∧ bY = gv_vy r (gv_bi C L i))
section
variable {yq yr yb yn yp yd yx yy : Int32} {inq req yo ymo yve ynz ypp ypd yzc : Nat → Int32}
variable {r f b s q : Nat}
theorem gy_sad6 {post : Int32 → Prop} {vx vy : Int32} (hf : f < 8) (hb : b < 4) (hs : s < 8) (h : post (gv_ct inq f b (gv_ft req s b vx vy))) :
    ∀ d i n, i + d = 16 → d < n → wY_sad_6 post (nI s) (nI f) (nI b) vx vy yq yr yb yn yp yd yx yy inq req yo ymo yve ynz ypp ypd yzc n (gv_sm (fun t => gv_ab (inq (f * 64 + gv_id b t) - gv_ft req s b vx vy t)) i) (nI i) := by
  intro d
  induction d with
  | zero =>
    intro i n hi hn
    obtain ⟨n, rfl⟩ : ∃ m, n = m + 1 := ⟨n - 1, by omega⟩
    obtain rfl : i = 16 := by omega
    exact br_t (by decide) h
  | succ d ih =>
    intro i n hi hn
    obtain ⟨n, rfl⟩ : ∃ m, n = m + 1 := ⟨n - 1, by omega⟩
    obtain ⟨ex, ey⟩ := gy_xy b hb i (by omega)
    have p1 := gv_pin2 hs (gv_c7_e (nI (4 * (b / 2) + i / 4) + vy)).2 (gv_c7_e (nI (4 * (b % 2) + i % 4) + vx)).2
    have p2 := gv_pin hf hb (t := i) (by omega)
    refine br_f (nI_ge (b := 16) (by omega) (by decide)) ⟨by decide, by decide, nm_r ex ⟨by decide, by decide, nm_r ey (gy_cl rfl (gy_cl rfl ⟨?_, nm_r (e' := gv_ft req s b vx vy i) ?_ ⟨?_, gy_abs (nm_r (e' := gv_sm (fun t => gv_ab (inq (f * 64 + gv_id b t) - gv_ft req s b vx vy t)) (i + 1)) ?_ (nm_r (nI_1 i) (ih (i + 1) n (by omega) (by omega))))⟩⟩))⟩⟩
    · rw [gx_ld]; exact vp_in_nI p1 (by decide)
    · rw [gx_ld, nI_clamp (by omega)]; rfl
    · rw [gx_ld, gv_id_e]; exact vp_in_nI p2 (by decide)
    · rw [gx_ld, gv_id_e, nI_clamp (by omega)]; rfl
theorem gy_sad {post : Int32 → Prop} {vx vy : Int32} (hf : f < 8) (hb : b < 4) (hs : s < 8) (h : post (gv_ct inq f b (gv_ft req s b vx vy))) : wpY_sad post (yq, yr, yb, yn, yp, yd, yx, yy, inq, req, yo, ymo, yve, ynz, ypp, ypd, yzc) (nI s) (nI f) (nI b) vx vy :=
  ⟨17, gy_sad6 hf hb hs h 16 0 17 rfl (by decide)⟩
theorem gy_s26 {post : Int32 → SY → Prop} {JJ : Int32 → Int32 → Int32 → Int32 → Prop} {a : Nat} (hr : r < 3) (hf : f < 8) (hb : b < 4) (hs : s < 8) (ha : a < 2 * r + 1) (hi : gv_P inq) (hR : gv_P req)
    (h : ∀ x4 bx bY : Int32, gv_YS (gv_sc inq req r s f b) (gv_ln r) r ((a + 1) * (2 * r + 1)) x4 bx bY → JJ x4 (nI (a + 1) - nI r) bx bY) :
    ∀ d j n, j + d = 2 * r + 1 → d < n → ∀ x4 bx bY : Int32, gv_YS (gv_sc inq req r s f b) (gv_ln r) r (a * (2 * r + 1) + j) x4 bx bY →
      wY_search_26 post JJ (nI s) (nI f) (nI b) (nI a - nI r) yq (nI r) yb yn yp yd inq req yo ymo yve ynz ypp ypd yzc n x4 (nI j - nI r) bx bY := by
  intro d
  induction d with
  | zero =>
    intro j n hj hn x4 bx bY H
    obtain ⟨n, rfl⟩ : ∃ m, n = m + 1 := ⟨n - 1, by omega⟩
    obtain rfl : j = 2 * r + 1 := by omega
    rw [show a * (2 * r + 1) + (2 * r + 1) = (a + 1) * (2 * r + 1) from (Nat.succ_mul _ _).symm] at H
    exact br_t ((gv_vr r hr _ (by omega)).mpr (by omega)) (nm_r (gv_v1 r hr a (by omega)) (h x4 bx bY H))
  | succ d ih =>
    intro j n hj hn x4 bx bY H
    obtain ⟨n, rfl⟩ : ∃ m, n = m + 1 := ⟨n - 1, by omega⟩
    obtain ⟨ex, ey⟩ := gv_vxe (r := r) (a := a) (j := j) (by omega)
    have e8 := gv_v1 r hr j (by omega)
    have I := fun x4 bx bY => ih (j + 1) n (by omega) (by omega) x4 bx bY
    rw [← Nat.add_assoc] at I
    refine br_f (fun z => by have := (gv_vr r hr j (by omega)).mp z; omega) (gy_sad hf hb hs ?_)
    have eC : gv_ct inq f b (gv_ft req s b (nI j - nI r) (nI a - nI r)) = gv_sc inq req r s f b (a * (2 * r + 1) + j) := by
      unfold gv_sc; rw [ex, ey]
    rw [eC]
    have hC := fun k => gv_sc_b hi hR r s f b k
    generalize gv_sc inq req r s f b = C at H I hC ⊢
    generalize hk : a * (2 * r + 1) + j = k at H I ex ey ⊢
    have T : (k = 0 ∨ C k < C (gv_bi C (gv_ln r) k) ∨ (C k = C (gv_bi C (gv_ln r) k) ∧ gv_ln r k < gv_ln r (gv_bi C (gv_ln r) k))) → gv_YS C (gv_ln r) r (k + 1) (C k) (nI j - nI r) (nI a - nI r) := by
      intro c
      have e : gv_bi C (gv_ln r) (k + 1) = k := by
        by_cases z : k = 0
        · subst z; rfl
        · exact gv_bi_t z (by rcases c with c | c; exact absurd c z; exact c)
      refine Or.inr ⟨by omega, ?_⟩
      rw [e, ex, ey]
      exact ⟨rfl, rfl, rfl⟩
    have W : gv_YS C (gv_ln r) r (k + 1) (C k) (nI j - nI r) (nI a - nI r) → wY_search_100 post JJ (wY_search_26 post JJ (nI s) (nI f) (nI b) (nI a - nI r) yq (nI r) yb yn yp yd inq req yo ymo yve ynz ypp ypd yzc n) (nI s) (nI f) (nI b) (nI a - nI r) (nI j - nI r) (C k) yq (nI r) yb yn yp yd bx bY inq req yo ymo yve ynz ypp ypd yzc := fun H' => nm_r e8 (I _ _ _ H')
    rcases H with ⟨k0, rfl⟩ | ⟨k0, h1, h2, h3⟩
    · exact br_t (by decide) (W (T (Or.inl k0)))
    · have hx4 : ¬ x4 < 0 := by
        rw [h1, gv_lt, gv_i0]
        have := (hC (gv_bi C (gv_ln r) k)).1
        omega
      have K : ¬ (C k < C (gv_bi C (gv_ln r) k) ∨ (C k = C (gv_bi C (gv_ln r) k) ∧ gv_ln r k < gv_ln r (gv_bi C (gv_ln r) k))) → gv_YS C (gv_ln r) r (k + 1) x4 bx bY := by
        intro c
        refine Or.inr ⟨by omega, ?_⟩
        rw [gv_bi_f (by omega) c]
        exact ⟨h1, h2, h3⟩
      refine br_f hx4 (br_c (fun c1 => W (T (Or.inr (Or.inl (h1 ▸ c1))))) (fun c1 => br_c (fun c2 => gy_abs (gy_abs (gy_abs (gy_abs (br_c (fun c3 => nm_r e8 (I _ _ _ (K ?_))) (fun c3 => W (T (Or.inr (Or.inr ⟨c2.trans h1, ?_⟩))))))))) (fun c2 => nm_r e8 (I _ _ _ (K ?_)))))
      · rintro (z | ⟨-, z⟩)
        · exact c1 (h1.symm ▸ z)
        · rw [gv_ln_e, gv_ln_e, ex, ey, ← h2, ← h3] at z
          exact Int32.not_lt.mpr c3 z
      · rw [gv_ln_e, gv_ln_e, ex, ey, ← h2, ← h3]
        exact Int32.not_le.mp c3
      · rintro (z | ⟨z, -⟩)
        · exact c1 (h1.symm ▸ z)
        · exact c2 (z.trans h1.symm)
theorem gy_s10 {post : Int32 → SY → Prop} (hr : r < 3) (hf : f < 8) (hb : b < 4) (hs : s < 8) (hi : gv_P inq) (hR : gv_P req)
    (h : post (gv_c1 inq req r f b s) (yq, nI r, yb, yn, yp, yd, gv_vx r (gv_se inq req r s f b), gv_vy r (gv_se inq req r s f b), inq, req, yo, ymo, yve, ynz, ypp, ypd, yzc)) :
    ∀ d a n, a + d = 2 * r + 1 → d < n → ∀ x4 bx bY : Int32, gv_YS (gv_sc inq req r s f b) (gv_ln r) r (a * (2 * r + 1)) x4 bx bY →
      wY_search_10 post (nI s) (nI f) (nI b) yq (nI r) yb yn yp yd inq req yo ymo yve ynz ypp ypd yzc n x4 (nI a - nI r) bx bY := by
  intro d
  induction d with
  | zero =>
    intro a n ha hn x4 bx bY H
    obtain ⟨n, rfl⟩ : ∃ m, n = m + 1 := ⟨n - 1, by omega⟩
    obtain rfl : a = 2 * r + 1 := by omega
    rcases H with ⟨z, -⟩ | ⟨-, h1, h2, h3⟩
    · have : 0 < (2 * r + 1) * (2 * r + 1) := Nat.mul_pos (by omega) (by omega)
      omega
    · subst h1 h2 h3
      exact br_t ((gv_vr r hr _ (by omega)).mpr (by omega)) h
  | succ d ih =>
    intro a n ha hn x4 bx bY H
    obtain ⟨n, rfl⟩ : ∃ m, n = m + 1 := ⟨n - 1, by omega⟩
    exact br_f (fun z => by have := (gv_vr r hr a (by omega)).mp z; omega) (nm_r (gv_v0 r hr) ⟨2 * r + 2, gy_s26 hr hf hb hs (by omega) hi hR (fun x4 bx bY H' => ih (a + 1) n (by omega) (by omega) x4 bx bY H') (2 * r + 1) 0 (2 * r + 2) (by omega) (by omega) x4 bx bY H⟩)
theorem gy_search {post : Int32 → SY → Prop} (hr : r < 3) (hf : f < 8) (hb : b < 4) (hs : s < 8) (hi : gv_P inq) (hR : gv_P req)
    (h : post (gv_c1 inq req r f b s) (yq, nI r, yb, yn, yp, yd, gv_vx r (gv_se inq req r s f b), gv_vy r (gv_se inq req r s f b), inq, req, yo, ymo, yve, ynz, ypp, ypd, yzc)) : wpY_search post (yq, nI r, yb, yn, yp, yd, yx, yy, inq, req, yo, ymo, yve, ynz, ypp, ypd, yzc) (nI s) (nI f) (nI b) :=
  nm_r (gv_v0 r hr) ⟨2 * r + 2, gy_s10 hr hf hb hs hi hR h (2 * r + 1) 0 (2 * r + 2) (by omega) (by omega) (-1) yx yy (Or.inl ⟨by omega, rfl⟩)⟩
theorem gy_fill3 {post : SY → Prop} {vx vy : Int32} {O : Nat} (hb : b < 4) (hs : s < 8) (hO : O ≤ 16) (h : post (yq, yr, yb, yn, yp, yd, yx, yy, inq, req, yo, ymo, yve, ynz, gv_wr ypp (fun t => O + t) (gv_ft req s b vx vy) 16, ypd, yzc)) :
    ∀ d i n, i + d = 16 → d < n → wY_fill_3 post (nI s) (nI b) vx vy (nI O) yq yr yb yn yp yd yx yy n (nI i) inq req yo ymo yve ynz (gv_wr ypp (fun t => O + t) (gv_ft req s b vx vy) i) ypd yzc := by
  intro d
  induction d with
  | zero =>
    intro i n hi hn
    obtain ⟨n, rfl⟩ : ∃ m, n = m + 1 := ⟨n - 1, by omega⟩
    obtain rfl : i = 16 := by omega
    exact br_t (by decide) h
  | succ d ih =>
    intro i n hi hn
    obtain ⟨n, rfl⟩ : ∃ m, n = m + 1 := ⟨n - 1, by omega⟩
    obtain ⟨ex, ey⟩ := gy_xy b hb i (by omega)
    have p1 := gv_pin2 hs (gv_c7_e (nI (4 * (b / 2) + i / 4) + vy)).2 (gv_c7_e (nI (4 * (b % 2) + i % 4) + vx)).2
    refine br_f (nI_ge (b := 16) (by omega) (by decide)) ⟨by decide, by decide, nm_r ex ⟨by decide, by decide, nm_r ey (gy_cl rfl (gy_cl rfl ⟨?_, ?_, nm_r (e' := gv_wr ypp (fun t => O + t) (gv_ft req s b vx vy) (i + 1)) ?_ (nm_r (nI_1 i) (ih (i + 1) n (by omega) (by omega)))⟩))⟩⟩
    · rw [gx_ld]; exact vp_in_nI p1 (by decide)
    · rw [nI_add]; exact vp_in_nI (by omega) (by decide)
    · rw [gx_ld, nI_add, nI_clamp (by omega), nI_clamp (by omega)]; rfl
theorem gy_fill {post : SY → Prop} {vx vy : Int32} (O : Nat) (hb : b < 4) (hs : s < 8) (hO : O ≤ 16) (h : ∀ A : gv_F, (∀ t, t < 16 → A (O + t) = gv_ft req s b vx vy t) → (∀ j, j < O → A j = ypp j) → post (yq, yr, yb, yn, yp, yd, yx, yy, inq, req, yo, ymo, yve, ynz, A, ypd, yzc)) : wpY_fill post (yq, yr, yb, yn, yp, yd, yx, yy, inq, req, yo, ymo, yve, ynz, ypp, ypd, yzc) (nI s) (nI b) vx vy (nI O) :=
  ⟨17, gy_fill3 hb hs hO (h _ (fun t ht => gv_wr_h (g := fun t => O + t) 16 (fun j _ e => by omega) ht) (fun j hj => gv_wr_m 16 (fun i _ e => by omega))) 16 0 17 rfl (by decide)⟩
theorem gy_bi5 {post : Int32 → Prop} {P : gv_F} (hf : f < 8) (hb : b < 4) (hP : ∀ t, t < 16 → (ypp t + ypp (16 + t) + 1) >>> ((1 : Int32) &&& 31) = P t) (h : post (gv_ct inq f b P)) :
    ∀ d i n, i + d = 16 → d < n → wY_biSad_5 post (nI f) (nI b) yq yr yb yn yp yd yx yy inq req yo ymo yve ynz ypp ypd yzc n (gv_sm (fun t => gv_ab (inq (f * 64 + gv_id b t) - P t)) i) (nI i) := by
  intro d
  induction d with
  | zero =>
    intro i n hi hn
    obtain ⟨n, rfl⟩ : ∃ m, n = m + 1 := ⟨n - 1, by omega⟩
    obtain rfl : i = 16 := by omega
    exact br_t (by decide) h
  | succ d ih =>
    intro i n hi hn
    obtain ⟨n, rfl⟩ : ∃ m, n = m + 1 := ⟨n - 1, by omega⟩
    have p2 := gv_pin hf hb (t := i) (by omega)
    have e64 : nI f * 64 + nI (gv_id b i) = nI (f * 64 + gv_id b i) := by rw [show (64 : Int32) = nI 64 from rfl, pk_mul, nI_add]
    have e16 : (16 : Int32) + nI i = nI (16 + i) := nI_add 16 i
    refine br_f (nI_ge (b := 16) (by omega) (by decide)) (gy_idx hb (by omega) ⟨?_, vp_in_nI (by omega) (by decide), ?_, gy_abs (nm_r (e' := gv_sm (fun t => gv_ab (inq (f * 64 + gv_id b t) - P t)) (i + 1)) ?_ (nm_r (nI_1 i) (ih (i + 1) n (by omega) (by omega))))⟩)
    · rw [e64]; exact vp_in_nI p2 (by decide)
    · rw [e16]; exact vp_in_nI (by omega) (by decide)
    · rw [e64, e16, nI_clamp (by omega), nI_clamp (by omega), nI_clamp (by omega), hP i (by omega)]; rfl
theorem gy_biSad {post : Int32 → Prop} {P : gv_F} (hf : f < 8) (hb : b < 4) (hP : ∀ t, t < 16 → (ypp t + ypp (16 + t) + 1) >>> ((1 : Int32) &&& 31) = P t) (h : post (gv_ct inq f b P)) : wpY_biSad post (yq, yr, yb, yn, yp, yd, yx, yy, inq, req, yo, ymo, yve, ynz, ypp, ypd, yzc) (nI f) (nI b) :=
  ⟨17, gy_bi5 hf hb hP h 16 0 17 rfl (by decide)⟩
/-- the prediction from the two fetched blocks -/
def gv_sp (A : gv_F) (m t : Nat) : Int32 := if m = 0 then 128 else if m = 1 then A t else if m = 2 then A (16 + t) else (A t + A (16 + t) + 1) >>> ((1 : Int32) &&& 31)
theorem gy_sp2 {post : SY → Prop} {m : Nat} (hm : m < 4) (h : post (yq, yr, yb, yn, yp, yd, yx, yy, inq, req, yo, ymo, yve, ynz, ypp, gv_wi ypd (gv_sp ypp m) 16, yzc)) :
    ∀ d i n, i + d = 16 → d < n → wY_setPred_2 post (nI m) yq yr yb yn yp yd yx yy n (nI i) inq req yo ymo yve ynz ypp (gv_wi ypd (gv_sp ypp m) i) yzc := by
  intro d
  induction d with
  | zero =>
    intro i n hi hn
    obtain ⟨n, rfl⟩ : ∃ m, n = m + 1 := ⟨n - 1, by omega⟩
    obtain rfl : i = 16 := by omega
    exact br_t (by decide) h
  | succ d ih =>
    intro i n hi hn
    obtain ⟨n, rfl⟩ : ∃ m, n = m + 1 := ⟨n - 1, by omega⟩
    have I := ih (i + 1) n (by omega) (by omega)
    have hv : vp_in (nI i) 16 := vp_in_nI (by omega) (by decide)
    have hw : vp_in (nI i) 32 := vp_in_nI (by omega) (by decide)
    have e16 : (16 : Int32) + nI i = nI (16 + i) := nI_add 16 i
    have hz : vp_in (16 + nI i) 32 := by rw [e16]; exact vp_in_nI (by omega) (by decide)
    have ec : (nI i).toNatClampNeg = i := nI_clamp (by omega)
    have ed : (16 + nI i).toNatClampNeg = 16 + i := by rw [e16]; exact nI_clamp (by omega)
    refine br_f (nI_ge (b := 16) (by omega) (by decide)) ?_
    rcases (by omega : m = 0 ∨ m = 1 ∨ m = 2 ∨ m = 3) with rfl | rfl | rfl | rfl
    · exact br_t rfl ⟨hv, nm_r (by rw [ec]; rfl) (nm_r (nI_1 i) I)⟩
    · exact br_f (by decide) (br_t rfl ⟨hw, hv, nm_r (by rw [ec]; rfl) (nm_r (nI_1 i) I)⟩)
    · exact br_f (by decide) (br_f (by decide) (br_t rfl ⟨hz, hv, nm_r (by rw [ec, ed]; rfl) (nm_r (nI_1 i) I)⟩))
    · exact br_f (by decide) (br_f (by decide) (br_f (by decide) ⟨hw, hz, hv, nm_r (by rw [ec, ed]; rfl) (nm_r (nI_1 i) I)⟩))
theorem gy_setPred {post : SY → Prop} {m : Nat} (hm : m < 4) (h : ∀ P : gv_F, (∀ t, t < 16 → P t = gv_sp ypp m t) → post (yq, yr, yb, yn, yp, yd, yx, yy, inq, req, yo, ymo, yve, ynz, ypp, P, yzc)) : wpY_setPred post (yq, yr, yb, yn, yp, yd, yx, yy, inq, req, yo, ymo, yve, ynz, ypp, ypd, yzc) (nI m) :=
  ⟨17, gy_sp2 hm (h _ (fun t ht => gv_wi_h ht)) 16 0 17 rfl (by decide)⟩
theorem gy_fwd6 {post : Int32 → Prop} {P : gv_F} {t : Nat} (ht : t < 16) (hf : f < 8) (hb : b < 4) (hP : ∀ s, s < 16 → ypd s = P s) (h : post (gv_tr (gv_rs inq f b P) t)) :
    ∀ d i n, i + d = 16 → d < n → wY_fwd_6 post (nI f) (nI b) (nI (t / 4)) (nI (t % 4)) yq yr yb yn yp yd yx yy inq req yo ymo yve ynz ypp ypd yzc n (gv_sm (gv_tf (gv_rs inq f b P) t) i) (nI i) := by
  intro d
  induction d with
  | zero =>
    intro i n hi hn
    obtain ⟨n, rfl⟩ : ∃ m, n = m + 1 := ⟨n - 1, by omega⟩
    obtain rfl : i = 16 := by omega
    exact br_t (by decide) h
  | succ d ih =>
    intro i n hi hn
    obtain ⟨n, rfl⟩ : ∃ m, n = m + 1 := ⟨n - 1, by omega⟩
    have p2 := gv_pin hf hb (t := i) (by omega)
    obtain ⟨e1, e2⟩ := gy_t4 i (by omega)
    have e64 : nI f * 64 + nI (gv_id b i) = nI (f * 64 + gv_id b i) := by rw [show (64 : Int32) = nI 64 from rfl, pk_mul, nI_add]
    refine br_f (nI_ge (b := 16) (by omega) (by decide)) ⟨by decide, gy_hm rfl e1 (by omega) (by omega) (gy_idx hb (by omega) ⟨?_, vp_in_nI (by omega) (by decide), by decide, gy_hm rfl e2 (by omega) (by omega) (nm_r (e' := gv_sm (gv_tf (gv_rs inq f b P) t) (i + 1)) ?_ (nm_r (nI_1 i) (ih (i + 1) n (by omega) (by omega))))⟩)⟩
    · rw [e64]; exact vp_in_nI p2 (by decide)
    · rw [e64, nI_clamp (by omega), nI_clamp (by omega), hP i (by omega)]; rfl
theorem gy_fwd {post : Int32 → Prop} {P : gv_F} {t : Nat} {x y : Int32} (ex : x = nI (t / 4)) (ey : y = nI (t % 4)) (ht : t < 16) (hf : f < 8) (hb : b < 4) (hP : ∀ s, s < 16 → ypd s = P s) (h : post (gv_tr (gv_rs inq f b P) t)) : wpY_fwd post (yq, yr, yb, yn, yp, yd, yx, yy, inq, req, yo, ymo, yve, ynz, ypp, ypd, yzc) (nI f) (nI b) x y := by
  subst ex ey
  exact ⟨17, gy_fwd6 ht hf hb hP h 16 0 17 rfl (by decide)⟩
theorem gy_inv5 {post : Int32 → Prop} {Z : gv_F} {t : Nat} (ht : t < 16) (hZ : ∀ s, s < 16 → yzc s = Z s) (h : post (gv_tr Z t)) :
    ∀ d i n, i + d = 16 → d < n → wY_inv_5 post (nI (t / 4)) (nI (t % 4)) yq yr yb yn yp yd yx yy inq req yo ymo yve ynz ypp ypd yzc n (gv_sm (gv_tf Z t) i) (nI i) := by
  intro d
  induction d with
  | zero =>
    intro i n hi hn
    obtain ⟨n, rfl⟩ : ∃ m, n = m + 1 := ⟨n - 1, by omega⟩
    obtain rfl : i = 16 := by omega
    exact br_t (by decide) h
  | succ d ih =>
    intro i n hi hn
    obtain ⟨n, rfl⟩ : ∃ m, n = m + 1 := ⟨n - 1, by omega⟩
    obtain ⟨e1, e2⟩ := gy_t4 i (by omega)
    refine br_f (nI_ge (b := 16) (by omega) (by decide)) ⟨by decide, gy_hm e1 rfl (by omega) (by omega) ⟨vp_in_nI (by omega) (by decide), by decide, gy_hm e2 rfl (by omega) (by omega) (nm_r (e' := gv_sm (gv_tf Z t) (i + 1)) ?_ (nm_r (nI_1 i) (ih (i + 1) n (by omega) (by omega))))⟩⟩
    rw [nI_clamp (by omega), hZ i (by omega), gv_h_sym (i / 4) (by omega) (t / 4) (by omega), gv_h_sym (i % 4) (by omega) (t % 4) (by omega)]
    rfl
theorem gy_inv {post : Int32 → Prop} {Z : gv_F} {t : Nat} {x y : Int32} (ex : x = nI (t / 4)) (ey : y = nI (t % 4)) (ht : t < 16) (hZ : ∀ s, s < 16 → yzc s = Z s) (h : post (gv_tr Z t)) : wpY_inv post (yq, yr, yb, yn, yp, yd, yx, yy, inq, req, yo, ymo, yve, ynz, ypp, ypd, yzc) x y := by
  subst ex ey
  exact ⟨17, gy_inv5 ht hZ h 16 0 17 rfl (by decide)⟩
end
