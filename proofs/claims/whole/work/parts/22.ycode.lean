/-! Y: codeBlock -/
section
variable {yq yr yb yn yp yd yx yy : Int32} {inq req yo ymo yve ynz ypp ypd yzc : Nat → Int32}
variable {f b q r mb N : Nat}
theorem gy_cb354 {post : SY → Prop} {P L : gv_F} (hf : f < 8) (hb : b < 4) (hP : ∀ t, t < 16 → ypd t = P t) (hZ : ∀ t, t < 16 → yzc t = L t * nI q) (h : post (yq, yr, yb, yn, yp, yd, yx, yy, inq, gv_wr req (fun t => f * 64 + gv_id b t) (gv_rb P L q) 16, yo, ymo, yve, ynz, ypp, ypd, yzc)) :
    ∀ d i n, i + d = 16 → d < n → wY_codeBlock_354 post (nI f) (nI b) yq yr yb yn yp yd yx yy n (nI i) inq (gv_wr req (fun t => f * 64 + gv_id b t) (gv_rb P L q) i) yo ymo yve ynz ypp ypd yzc := by
  intro d
  induction d with
  | zero =>
    intro i n hi hn
    obtain ⟨n, rfl⟩ : ∃ m, n = m + 1 := ⟨n - 1, by omega⟩
    obtain rfl : i = 16 := by omega
    exact br_t (by decide) h
  | succ d ih =>
    intro i n hi hn
    obtain ⟨n, rfl⟩ : ∃ m, n = m + 1 := ⟨n - 1, by omega⟩
    have p2 := gv_pin hf hb (t := i) (by omega)
    obtain ⟨e1, e2⟩ := gy_t4 i (by omega)
    have e64 : nI f * 64 + nI (gv_id b i) = nI (f * 64 + gv_id b i) := by rw [show (64 : Int32) = nI 64 from rfl, pk_mul, nI_add]
    refine br_f (nI_ge (b := 16) (by omega) (by decide)) ⟨by decide, by decide, gy_inv (Z := fun s => L s * nI q) e1 e2 (by omega) hZ (nm_e (gy_idx hb (by omega) ⟨vp_in_nI (by omega) (by decide), gy_c255 ⟨?_, nm_r (e' := gv_wr req (fun t => f * 64 + gv_id b t) (gv_rb P L q) (i + 1)) ?_ (nm_r (nI_1 i) (ih (i + 1) n (by omega) (by omega)))⟩⟩))⟩
    · rw [e64]; exact vp_in_nI p2 (by decide)
    · rw [e64, nI_clamp (by omega), nI_clamp (by omega), hP i (by omega)]; rfl
theorem gy_cb262 {post : SY → Prop} {P : gv_F} {k : Nat} (hq1 : 1 ≤ q) (hq2 : q ≤ 64) (hf : f < 8) (hb : b < 4) (hk : k < 32) (hP : ∀ t, t < 16 → ypd t = P t)
    (h : ∀ Z : gv_F, post (nI q, yr, yb, yn, yp, yd, yx, yy, inq, gv_wr req (fun t => f * 64 + gv_id b t) (gv_rb P (gv_lv inq f b q P) q) 16, yo, ymo, yve, upd ynz k (gv_nz (gv_lv inq f b q P)), ypp, ypd, Z)) :
    ∀ d i n, i + d = 16 → d < n → wY_codeBlock_262 post (nI f) (nI b) (nI k) (nI q) yr yb yn yp yd yx yy n (gv_sm (fun t => if gv_lv inq f b q P t = 0 then 0 else 1) i) (nI i) inq req yo ymo yve ynz ypp ypd (gv_wi yzc (fun t => gv_lv inq f b q P t * nI q) i) := by
  intro d
  induction d with
  | zero =>
    intro i n hi hn
    obtain ⟨n, rfl⟩ : ∃ m, n = m + 1 := ⟨n - 1, by omega⟩
    obtain rfl : i = 16 := by omega
    refine br_t (by decide) ⟨vp_in_nI hk (by decide), nm_r (e' := upd ynz k (gv_nz (gv_lv inq f b q P))) (by rw [nI_clamp (by omega)]; rfl) ⟨17, gy_cb354 (P := P) (L := gv_lv inq f b q P) hf hb hP (fun t ht => gv_wi_h ht) (h _) 16 0 17 rfl (by decide)⟩⟩
  | succ d ih =>
    intro i n hi hn
    obtain ⟨n, rfl⟩ : ∃ m, n = m + 1 := ⟨n - 1, by omega⟩
    have I := ih (i + 1) n (by omega) (by omega)
    obtain ⟨e1, e2⟩ := gy_t4 i (by omega)
    have W : ∀ x9 : Int32, x9 = gv_lv inq f b q P i → wY_codeBlock_315 post (wY_codeBlock_262 post (nI f) (nI b) (nI k) (nI q) yr yb yn yp yd yx yy n) (nI f) (nI b) (nI k) (gv_sm (fun t => if gv_lv inq f b q P t = 0 then 0 else 1) i) (nI i) x9 (nI q) yr yb yn yp yd yx yy inq req yo ymo yve ynz ypp ypd (gv_wi yzc (fun t => gv_lv inq f b q P t * nI q) i) := by
      intro x9 e9
      subst e9
      have hv : vp_in (nI i) 16 := vp_in_nI (by omega) (by decide)
      have ez : upd (gv_wi yzc (fun t => gv_lv inq f b q P t * nI q) i) (nI i).toNatClampNeg (gv_lv inq f b q P i * nI q) = gv_wi yzc (fun t => gv_lv inq f b q P t * nI q) (i + 1) := by rw [nI_clamp (by omega)]; rfl
      rw [← gv_sm_s] at I
      refine br_c (fun c => ⟨hv, nm_r ez (nm_r (nI_1 i) ?_)⟩) (fun c => nm_e ⟨hv, nm_r ez (nm_r (nI_1 i) ?_)⟩)
      · rw [if_pos c, Int32.add_zero] at I
        exact I
      · rw [if_neg c] at I
        exact I
    refine br_f (nI_ge (b := 16) (by omega) (by decide)) ⟨by decide, by decide, gy_fwd (P := P) e1 e2 (by omega) hf hb hP (gy_abs ⟨by decide, nI_ne0 (by omega) (by omega), nm_e (br_c (fun c => W _ ?_) (fun c => nm_e (W _ ?_)))⟩)⟩
    · unfold gv_lv gv_qt
      rw [if_neg (Int32.not_lt.mpr c)]
    · unfold gv_lv gv_qt
      rw [if_pos (Int32.not_le.mp c)]
theorem gy_cb242 {post : SY → Prop} {PP : gv_F} {k m : Nat} (hm : m < 4) (hq1 : 1 ≤ q) (hq2 : q ≤ 64) (hf : f < 8) (hb : b < 4) (hk : k < 32) (hP : ∀ t, t < 16 → gv_sp ypp m t = PP t)
    (h : ∀ D Z : gv_F, post (nI q, yr, yb, yn, yp, yd, yx, yy, inq, gv_wr req (fun t => f * 64 + gv_id b t) (gv_rb PP (gv_lv inq f b q PP) q) 16, yo, upd ymo k (nI m), yve, upd ynz k (gv_nz (gv_lv inq f b q PP)), ypp, D, Z)) :
    wY_codeBlock_242 post (nI f) (nI b) (nI k) (nI m) (nI q) yr yb yn yp yd yx yy inq req yo ymo yve ynz ypp ypd yzc :=
  ⟨vp_in_nI hk (by decide), nm_r (e' := upd ymo k (nI m)) (by rw [nI_clamp (by omega)]) (gy_setPred hm (fun D hD => ⟨17, gy_cb262 (P := PP) hq1 hq2 hf hb hk (fun t ht => (hD t ht).trans (hP t ht)) (h D) 16 0 17 rfl (by decide)⟩))⟩
theorem gv_i4 {k : Nat} : nI k * 4 = nI (k * 4 + 0) := by rw [show (4 : Int32) = nI 4 from rfl, pk_mul]; rfl
theorem gv_i4c {k : Nat} (c : Nat) {x : Int32} (hx : x = nI c) : nI k * 4 + x = nI (k * 4 + c) := by subst hx; exact gx_4
/-- a store into one of the four places -/
theorem gv_w4_s {a V : gv_F} {k c : Nat} {x y : Int32} (hc : c < 4) (hk : k < 32) (e : y = nI (k * 4 + c)) : vp_in y 128 ∧ upd (gv_w4 a k V) y.toNatClampNeg x = gv_w4 a k (fun i => if i = c then x else V i) := by
  subst e
  rw [nI_clamp (by omega), gv_w4_u hc]
  exact ⟨vp_in_nI (by omega) (by decide), rfl⟩
variable {k : Nat} {fx fy bx bY : Int32} {V0 : gv_F}
theorem gy_cb214 {post : SY → Prop} {m : Nat} (hm : m ≠ 2) (hm4 : m < 4) (hk : k < 32) (h : wY_codeBlock_242 post (nI f) (nI b) (nI k) (nI m) yq yr yb yn yp yd yx yy inq req yo ymo (gv_w4 yve k (fun i => if i = 1 then fy else if i = 0 then fx else V0 i)) ynz ypp ypd yzc) :
    wY_codeBlock_214 post (nI f) (nI b) (nI k) (nI m) fx fy yq yr yb yn yp yd yx yy inq req yo ymo (gv_w4 yve k V0) ynz ypp ypd yzc := by
  obtain ⟨a1, a2⟩ := gv_w4_s (a := yve) (V := V0) (c := 0) (x := fx) (by decide) hk gv_i4
  obtain ⟨c1, c2⟩ := gv_w4_s (a := yve) (V := fun i => if i = 0 then fx else V0 i) (c := 1) (x := fy) (by decide) hk (gv_i4c 1 rfl)
  exact br_f (fun z => hm ((nI_eq (b := 2) (by omega) (by decide)).mp z)) ⟨a1, nm_r a2 ⟨c1, nm_r c2 h⟩⟩
theorem gy_cb184 {post : SY → Prop} {m : Nat} (hm : m ≠ 1) (hm4 : m < 4) (hk : k < 32) (h : wY_codeBlock_214 post (nI f) (nI b) (nI k) (nI m) fx fy yq yr yb yn yp yd yx yy inq req yo ymo (gv_w4 yve k (fun i => if i = 3 then bY else if i = 2 then bx else V0 i)) ynz ypp ypd yzc) :
    wY_codeBlock_184 post (nI f) (nI b) (nI k) (nI m) fx fy bx bY yq yr yb yn yp yd yx yy inq req yo ymo (gv_w4 yve k V0) ynz ypp ypd yzc := by
  obtain ⟨a1, a2⟩ := gv_w4_s (a := yve) (V := V0) (c := 2) (x := bx) (by decide) hk (gv_i4c 2 rfl)
  obtain ⟨c1, c2⟩ := gv_w4_s (a := yve) (V := fun i => if i = 2 then bx else V0 i) (c := 3) (x := bY) (by decide) hk (gv_i4c 3 rfl)
  exact br_f (fun z => hm ((nI_eq (b := 1) (by omega) (by decide)).mp z)) ⟨a1, nm_r a2 ⟨c1, nm_r c2 h⟩⟩
theorem gv_4 {A B : gv_F} (h0 : A 0 = B 0) (h1 : A 1 = B 1) (h2 : A 2 = B 2) (h3 : A 3 = B 3) : ∀ c, c < 4 → A c = B c := by
  intro c hc
  rcases (by omega : c = 0 ∨ c = 1 ∨ c = 2 ∨ c = 3) with rfl | rfl | rfl | rfl <;> assumption
theorem gv_vu_0 {inp R : gv_F} {r f b past next : Nat} : gv_vu inp R r f b past next 0 = gv_vx r (gv_se inp R r past f b) := if_pos rfl
theorem gv_vu_1 {inp R : gv_F} {r f b past next : Nat} : gv_vu inp R r f b past next 1 = gv_vy r (gv_se inp R r past f b) := by unfold gv_vu; rw [if_neg (by decide), if_pos rfl]
theorem gv_vu_2 {inp R : gv_F} {r f b past next : Nat} : gv_vu inp R r f b past next 2 = gv_vx r (gv_se inp R r next f b) := by unfold gv_vu; rw [if_neg (by decide), if_neg (by decide), if_pos rfl]
theorem gv_vu_3 {inp R : gv_F} {r f b past next : Nat} : gv_vu inp R r f b past next 3 = gv_vy r (gv_se inp R r next f b) := by unfold gv_vu; rw [if_neg (by decide), if_neg (by decide), if_neg (by decide)]
theorem gv_pr_0 {R V : gv_F} {b past next t : Nat} : gv_pr R b 0 V past next t = 128 := if_pos rfl
theorem gv_pr_1 {R V : gv_F} {b past next t : Nat} : gv_pr R b 1 V past next t = gv_ft R past b (V 0) (V 1) t := by unfold gv_pr; rw [if_neg (by decide), if_pos rfl]
theorem gv_pr_2 {R V : gv_F} {b past next t : Nat} : gv_pr R b 2 V past next t = gv_ft R next b (V 2) (V 3) t := by unfold gv_pr; rw [if_neg (by decide), if_neg (by decide), if_pos rfl]
theorem gv_pr_3 {R V : gv_F} {b past next t : Nat} : gv_pr R b 3 V past next t = (gv_ft R past b (V 0) (V 1) t + gv_ft R next b (V 2) (V 3) t + 1) >>> ((1 : Int32) &&& 31) := by unfold gv_pr; rw [if_neg (by decide), if_neg (by decide), if_neg (by decide)]
theorem gv_sp_0 {A : gv_F} {t : Nat} : gv_sp A 0 t = 128 := if_pos rfl
theorem gv_sp_1 {A : gv_F} {t : Nat} : gv_sp A 1 t = A t := by unfold gv_sp; rw [if_neg (by decide), if_pos rfl]
theorem gv_sp_2 {A : gv_F} {t : Nat} : gv_sp A 2 t = A (16 + t) := by unfold gv_sp; rw [if_neg (by decide), if_neg (by decide), if_pos rfl]
theorem gv_sp_3 {A : gv_F} {t : Nat} : gv_sp A 3 t = (A t + A (16 + t) + 1) >>> ((1 : Int32) &&& 31) := by unfold gv_sp; rw [if_neg (by decide), if_neg (by decide), if_neg (by decide)]
/-- the vectors that Y stores, mode by mode -/
theorem gv_yv0 {inp R : gv_F} {r f b past next : Nat} : ∀ c, c < 4 → (fun _ => 0 : gv_F) c = gv_vv inp R r 0 f b past next c :=
  gv_4 (by rw [gv_vv_f0 (by decide) (by decide)]) (by rw [gv_vv_f0 (by decide) (by decide)]) (by rw [gv_vv_b0 (by decide) (by decide)]) (by rw [gv_vv_b0 (by decide) (by decide)])
theorem gv_yv1 {inp R : gv_F} {r f b past next : Nat} : ∀ c, c < 4 → (fun i => if i = 1 then gv_vy r (gv_se inp R r past f b) else if i = 0 then gv_vx r (gv_se inp R r past f b) else 0 : gv_F) c = gv_vv inp R r 1 f b past next c :=
  gv_4 (by rw [gv_vv_f (by decide) (by decide), gv_vu_0]; rfl) (by rw [gv_vv_f (by decide) (by decide), gv_vu_1]; rfl) (by rw [gv_vv_b0 (by decide) (by decide)]; rfl) (by rw [gv_vv_b0 (by decide) (by decide)]; rfl)
theorem gv_yv2 {inp R : gv_F} {r f b past next : Nat} : ∀ c, c < 4 → (fun i => if i = 3 then gv_vy r (gv_se inp R r next f b) else if i = 2 then gv_vx r (gv_se inp R r next f b) else 0 : gv_F) c = gv_vv inp R r 2 f b past next c :=
  gv_4 (by rw [gv_vv_f0 (by decide) (by decide)]; rfl) (by rw [gv_vv_f0 (by decide) (by decide)]; rfl) (by rw [gv_vv_b2 (by decide) (by decide), gv_vu_2]; rfl) (by rw [gv_vv_b2 (by decide) (by decide), gv_vu_3]; rfl)
theorem gv_yv3 {inp R : gv_F} {r f b past next : Nat} : ∀ c, c < 4 → (fun i => if i = 1 then gv_vy r (gv_se inp R r past f b) else if i = 0 then gv_vx r (gv_se inp R r past f b) else (fun i => if i = 3 then gv_vy r (gv_se inp R r next f b) else if i = 2 then gv_vx r (gv_se inp R r next f b) else 0 : gv_F) i : gv_F) c = gv_vv inp R r 3 f b past next c :=
  gv_4 (by rw [gv_vv_f (by decide) (by decide), gv_vu_0]; rfl) (by rw [gv_vv_f (by decide) (by decide), gv_vu_1]; rfl) (by rw [gv_vv_b2 (by decide) (by decide), gv_vu_2]; rfl) (by rw [gv_vv_b2 (by decide) (by decide), gv_vu_3]; rfl)
theorem gv_blk_e {inp R M V Z : gv_F} {q r ty f b past next : Nat} : gv_blk inp q r ty f b past next (R, M, V, Z) =
    (gv_wr R (fun t => f * 64 + gv_id b t) (gv_rb (gv_pp R inp r ty f b past next) (gv_lv inp f b q (gv_pp R inp r ty f b past next)) q) 16, upd M (f * 4 + b) (nI (gv_mo inp R r ty f b past next)),
     gv_w4 V (f * 4 + b) (gv_vv inp R r (gv_mo inp R r ty f b past next) f b past next), upd Z (f * 4 + b) (gv_nz (gv_lv inp f b q (gv_pp R inp r ty f b past next)))) := rfl
/-- all that behind the choice of a mode is left to do -/
def gv_YK (post : SY → Prop) (q r mb N f b : Nat) (yp yd : Int32) (inq req yo ymo yve ynz ypd yzc : gv_F) : Prop :=
  ∀ (m : Nat) (yx yy : Int32) (pp V' : gv_F), m = gv_mo inq req r (gv_ty mb N f) f b (gv_pa mb N f) (gv_na mb N f) → (∀ t, t < 16 → gv_sp pp m t = gv_pr req b m (gv_vu inq req r f b (gv_pa mb N f) (gv_na mb N f)) (gv_pa mb N f) (gv_na mb N f) t) →
      (∀ c, c < 4 → V' c = gv_vv inq req r m f b (gv_pa mb N f) (gv_na mb N f) c) → wY_codeBlock_242 post (nI f) (nI b) (nI (f * 4 + b)) (nI m) (nI q) (nI r) (nI mb) (nI N) yp yd yx yy inq req yo ymo (gv_w4 yve (f * 4 + b) V') ynz pp ypd yzc
theorem gy_YK {post : SY → Prop} (hq1 : 1 ≤ q) (hq2 : q ≤ 64) (hf : f < 8) (hb : b < 4)
    (h : ∀ (yx yy : Int32) (pp pd zc : gv_F) (s : gv_Q), s = gv_blk inq q r (gv_ty mb N f) f b (gv_pa mb N f) (gv_na mb N f) (req, ymo, yve, ynz) → post (nI q, nI r, nI mb, nI N, yp, yd, yx, yy, inq, s.1, yo, s.2.1, s.2.2.1, s.2.2.2, pp, pd, zc)) :
    gv_YK post q r mb N f b yp yd inq req yo ymo yve ynz ypd yzc := by
  intro m yx yy pp V' em hs hV
  have hm4 : m < 4 := by rw [em]; exact gv_mo_4 _ _ _ _ _ _ _ _
  subst em
  refine gy_cb242 (PP := gv_pp req inq r (gv_ty mb N f) f b (gv_pa mb N f) (gv_na mb N f)) hm4 hq1 hq2 hf hb (by omega) hs (fun D Z => ?_)
  rw [gv_w4_c hV]
  exact h yx yy pp D Z _ gv_blk_e.symm
theorem gy_cb168 {post : SY → Prop} {A B : gv_F} (hf : f < 8) (hb : b < 4) (K : gv_YK post q r mb N f b yp yd inq req yo ymo yve ynz ypd yzc) (t2 : gv_ty mb N f = 2)
    (hA : ∀ t, t < 16 → B t = gv_ft req (gv_pa mb N f) b (gv_vx r (gv_se inq req r (gv_pa mb N f) f b)) (gv_vy r (gv_se inq req r (gv_pa mb N f) f b)) t)
    (hB : ∀ t, t < 16 → B (16 + t) = gv_ft req (gv_na mb N f) b (gv_vx r (gv_se inq req r (gv_na mb N f) f b)) (gv_vy r (gv_se inq req r (gv_na mb N f) f b)) t)
    (c : ¬ (gv_c1 inq req r f b (gv_pa mb N f) ≤ gv_c1 inq req r f b (gv_na mb N f) ∧ gv_c1 inq req r f b (gv_pa mb N f) ≤ gv_c3 inq req r f b (gv_pa mb N f) (gv_na mb N f))) :
    wY_codeBlock_168 post (nI f) (nI b) (nI (f * 4 + b)) (gv_vx r (gv_se inq req r (gv_pa mb N f) f b)) (gv_vy r (gv_se inq req r (gv_pa mb N f) f b)) (gv_c1 inq req r f b (gv_na mb N f)) (gv_vx r (gv_se inq req r (gv_na mb N f) f b)) (gv_vy r (gv_se inq req r (gv_na mb N f) f b)) (gv_c3 inq req r f b (gv_pa mb N f) (gv_na mb N f))
      (nI q) (nI r) (nI mb) (nI N) yp yd yx yy inq req yo ymo (gv_w4 yve (f * 4 + b) (fun _ => 0)) ynz B ypd yzc := by
  have em := gv_mo_2 (inp := inq) (R := req) (r := r) (f := f) (b := b) (past := gv_pa mb N f) (next := gv_na mb N f) t2
  rw [if_neg c] at em
  refine br_c (fun d => ?_) (fun d => ?_)
  · rw [if_neg (Int32.not_le.mpr d)] at em
    refine gy_cb184 (m := 3) (by decide) (by decide) (by omega) (gy_cb214 (m := 3) (by decide) (by decide) (by omega) (K 3 _ _ B _ em.symm (fun t ht => ?_) gv_yv3))
    rw [gv_sp_3, gv_pr_3, gv_vu_0, gv_vu_1, gv_vu_2, gv_vu_3, hA t ht, hB t ht]
  · rw [if_pos (Int32.not_lt.mp d)] at em
    refine gy_cb184 (m := 2) (by decide) (by decide) (by omega) (br_t rfl (K 2 _ _ B _ em.symm (fun t ht => ?_) gv_yv2))
    rw [gv_sp_2, gv_pr_2, gv_vu_2, gv_vu_3, hB t ht]
theorem gy_cbz {post : SY → Prop} {m : Nat} (hr : r < 3) (hm : mb < 4) (hN : N < 9) (h1 : 1 ≤ N) (hf : f < N) (hb : b < 4) (hi : gv_P inq) (hR : gv_P req) (K : gv_YK post q r mb N f b yp yd inq req yo ymo yve ynz ypd yzc) :
    wY_codeBlock_9 post (nI f) (nI b) (nI (f * 4 + b)) (nI q) (nI r) (nI mb) (nI N) yp yd yx yy (m + 1) 4 inq req yo ymo (gv_w4 yve (f * 4 + b) (fun _ => 0)) ynz ypp ypd yzc := by
  have hpn := gv_pa_lt mb hm N hN f hf
  have ht3 := gv_ty_3 mb N f
  refine br_t (by decide) (gy_type hm hN h1 (by omega) ?_)
  by_cases t0 : gv_ty mb N f = 0
  · refine br_t (by rw [t0]; rfl) (K 0 yx yy ypp (fun _ => 0) (gv_mo_0 t0).symm (fun t ht => ?_) gv_yv0)
    rw [gv_sp_0, gv_pr_0]
  refine br_f (fun z => t0 (gv_ty0.mp z)) (gy_prev hm hN h1 hf (gy_search hr (by omega) hb (by omega) hi hR (gy_fill 0 hb (by omega) (by decide) (fun A hA _ => ?_))))
  have hA' : ∀ t, t < 16 → A t = gv_ft req (gv_pa mb N f) b (gv_vx r (gv_se inq req r (gv_pa mb N f) f b)) (gv_vy r (gv_se inq req r (gv_pa mb N f) f b)) t := fun t ht => by
    have := hA t ht
    rw [Nat.zero_add] at this
    exact this
  by_cases t1 : gv_ty mb N f = 1
  · refine br_f (by rw [t1]; decide) (gy_cb214 (m := 1) (by decide) (by decide) (by omega) (K 1 _ _ A _ (gv_mo_1 t1).symm (fun t ht => ?_) gv_yv1))
    rw [gv_sp_1, gv_pr_1, gv_vu_0, gv_vu_1, hA' t ht]
  have t2 : gv_ty mb N f = 2 := by omega
  refine br_t (by rw [t2]; rfl) (gy_next hm hN h1 hf (gy_search hr (by omega) hb (by omega) hi hR (gy_fill 16 hb (by omega) (by decide) (fun B hB hB' => gy_biSad (P := gv_pr req b 3 (gv_vu inq req r f b (gv_pa mb N f) (gv_na mb N f)) (gv_pa mb N f) (gv_na mb N f)) (by omega) hb (fun t ht => ?_) ?_))))
  · rw [gv_pr_3, gv_vu_0, gv_vu_1, gv_vu_2, gv_vu_3, hB' t (by omega), hA' t ht, hB t ht]
  have hBA : ∀ t, t < 16 → B t = gv_ft req (gv_pa mb N f) b (gv_vx r (gv_se inq req r (gv_pa mb N f) f b)) (gv_vy r (gv_se inq req r (gv_pa mb N f) f b)) t := fun t ht => (hB' t (by omega)).trans (hA' t ht)
  refine br_c (fun c => gy_cb168 (A := A) (by omega) hb K t2 hBA hB (fun z => Int32.not_lt.mpr z.1 c)) (fun c => br_c (fun d => gy_cb168 (A := A) (by omega) hb K t2 hBA hB (fun z => Int32.not_lt.mpr z.2 d)) (fun d => ?_))
  have em := gv_mo_2 (inp := inq) (R := req) (r := r) (f := f) (b := b) (past := gv_pa mb N f) (next := gv_na mb N f) t2
  rw [if_pos ⟨Int32.not_lt.mp c, Int32.not_lt.mp d⟩] at em
  refine br_t rfl (gy_cb214 (m := 1) (by decide) (by decide) (by omega) (K 1 _ _ B _ em.symm (fun t ht => ?_) gv_yv1))
  rw [gv_sp_1, gv_pr_1, gv_vu_0, gv_vu_1, hBA t ht]
theorem gy_cb9 {post : SY → Prop} (hr : r < 3) (hm : mb < 4) (hN : N < 9) (h1 : 1 ≤ N) (hf : f < N) (hb : b < 4) (hi : gv_P inq) (hR : gv_P req) (K : gv_YK post q r mb N f b yp yd inq req yo ymo yve ynz ypd yzc) :
    ∀ d i n, i + d = 4 → d < n → wY_codeBlock_9 post (nI f) (nI b) (nI (f * 4 + b)) (nI q) (nI r) (nI mb) (nI N) yp yd yx yy n (nI i) inq req yo ymo (gv_wr yve (fun c => (f * 4 + b) * 4 + c) (fun _ => 0) i) ynz ypp ypd yzc := by
  intro d
  induction d with
  | zero =>
    intro i n hi' hn
    obtain ⟨n, rfl⟩ : ∃ m, n = m + 1 := ⟨n - 1, by omega⟩
    obtain rfl : i = 4 := by omega
    exact gy_cbz hr hm hN h1 hf hb hi hR K
  | succ d ih =>
    intro i n hi' hn
    obtain ⟨n, rfl⟩ : ∃ m, n = m + 1 := ⟨n - 1, by omega⟩
    exact br_f (nI_ge (b := 4) (by omega) (by decide)) ⟨by rw [gx_4]; exact vp_in_nI (by omega) (by decide), nm_r (e' := gv_wr yve (fun c => (f * 4 + b) * 4 + c) (fun _ => 0) (i + 1)) (by rw [gx_4, nI_clamp (by omega)]; rfl) (nm_r (nI_1 i) (ih (i + 1) n (by omega) (by omega)))⟩
theorem gy_codeBlock {post : SY → Prop} {s : gv_Q} (hq1 : 1 ≤ q) (hq2 : q ≤ 64) (hr : r < 3) (hm : mb < 4) (hN : N < 9) (h1 : 1 ≤ N) (hf : f < N) (hb : b < 4) (hi : gv_P inq) (hR : gv_P s.1)
    (h : ∀ (yx yy : Int32) (pp pd zc : gv_F) (s' : gv_Q), s' = gv_blk inq q r (gv_ty mb N f) f b (gv_pa mb N f) (gv_na mb N f) s → post (nI q, nI r, nI mb, nI N, yp, yd, yx, yy, inq, s'.1, yo, s'.2.1, s'.2.2.1, s'.2.2.2, pp, pd, zc)) :
    wpY_codeBlock post (nI q, nI r, nI mb, nI N, yp, yd, yx, yy, inq, s.1, yo, s.2.1, s.2.2.1, s.2.2.2, ypp, ypd, yzc) (nI f) (nI b) := by
  obtain ⟨s1, s2, s3, s4⟩ := s
  exact nm_r gx_4 ⟨5, gy_cb9 hr hm hN h1 hf hb hi hR (gy_YK hq1 hq2 (by omega) hb h) 4 0 5 rfl (by decide)⟩
end
