/-! the records of the stream, and what they say of the pictures -/
def gv_bs (p b : Nat) : Nat := 899 * p + 11 + 222 * b
def gv_sl (st : Nat → Int32) (B k : Nat) : Int32 := nI (gv_rd st (B + 14 + 13 * k) 13) - 4096
def gv_sv (st : Nat → Int32) (B c : Nat) : Int32 := nI (gv_rd st (B + 2 + 3 * c) 3) - 2
def gv_sq (st : Nat → Int32) (B : Nat) : Nat := gv_rd st B 2
theorem gv_sq_4 (st : Nat → Int32) (B : Nat) : gv_sq st B < 4 := gv_rd_lt st B 2
theorem gv_sq_c {st st' : Nat → Int32} {B : Nat} (h : ∀ j, j < B + 222 → st j = st' j) : gv_sq st B = gv_sq st' B := gv_rd_c 2 (fun j _ h2 => h j (by omega))
theorem gv_sv_c {st st' : Nat → Int32} {B c : Nat} (hc : c < 4) (h : ∀ j, j < B + 222 → st j = st' j) : gv_sv st B c = gv_sv st' B c := by
  unfold gv_sv; rw [gv_rd_c 3 (fun j _ h2 => h j (by omega))]
theorem gv_sl_c {st st' : Nat → Int32} {B k : Nat} (hk : k < 16) (h : ∀ j, j < B + 222 → st j = st' j) : gv_sl st B k = gv_sl st' B k := by
  unfold gv_sl; rw [gv_rd_c 13 (fun j _ h2 => h j (by omega))]
def gv_HD (q mb n : Nat) (st : Nat → Int32) (p : Nat) : Prop :=
  gv_rd st (899 * p) 3 = gv_od mb n p ∧ gv_rd st (899 * p + 3) 2 = gv_ty mb n (gv_od mb n p) ∧ gv_rd st (899 * p + 5) 6 = q - 1
theorem gv_HD_c {q mb n p : Nat} {st st' : Nat → Int32} (h : ∀ j, j < 899 * p + 11 → st j = st' j) (H : gv_HD q mb n st p) : gv_HD q mb n st' p := by
  unfold gv_HD at H ⊢
  rw [gv_rd_c 3 (fun j _ h2 => (h j (by omega)).symm), gv_rd_c (st := st') (st' := st) 2 (fun j _ h2 => (h j (by omega)).symm), gv_rd_c (st := st') (st' := st) 6 (fun j _ h2 => (h j (by omega)).symm)]
  exact H
def gv_CB (q mb n : Nat) (st R : Nat → Int32) (p b : Nat) : Prop :=
  (gv_ty mb n (gv_od mb n p) = 0 → gv_sq st (gv_bs p b) = 0) ∧ (gv_ty mb n (gv_od mb n p) = 1 → gv_sq st (gv_bs p b) = 1) ∧
  ∀ t, t < 16 → R (gv_od mb n p * 64 + gv_id b t) = gv_rb (gv_pr R b (gv_sq st (gv_bs p b)) (gv_sv st (gv_bs p b)) (gv_pa mb n (gv_od mb n p)) (gv_na mb n (gv_od mb n p))) (gv_sl st (gv_bs p b)) q t
theorem gv_CB_st {q mb n p b : Nat} {st st' R : Nat → Int32} (h : ∀ j, j < gv_bs p b + 222 → st j = st' j) (H : gv_CB q mb n st R p b) : gv_CB q mb n st' R p b := by
  obtain ⟨H1, H2, H3⟩ := H
  unfold gv_CB
  rw [← gv_sq_c h]
  refine ⟨H1, H2, fun t ht => ?_⟩
  rw [H3 t ht]
  exact gv_rb_c q (gv_pr_c (fun c hc => gv_sv_c hc h) (fun _ _ => ⟨rfl, fun _ _ => rfl⟩) (fun _ _ => ⟨rfl, fun _ _ => rfl⟩) t) (fun s hs => gv_sl_c hs h)
/-- the mode says which frames are looked at -/
theorem gv_use {q mb n p b : Nat} {st R : Nat → Int32} (H : gv_CB q mb n st R p b) : (gv_sq st (gv_bs p b) ≠ 0 → gv_ty mb n (gv_od mb n p) ≠ 0) ∧ (gv_sq st (gv_bs p b) ≠ 0 → gv_sq st (gv_bs p b) ≠ 1 → gv_ty mb n (gv_od mb n p) = 2) := by
  obtain ⟨H1, H2, -⟩ := H
  have := gv_ty_3 mb n (gv_od mb n p)
  refine ⟨fun z e => z (H1 e), fun z z1 => ?_⟩
  have a : gv_ty mb n (gv_od mb n p) ≠ 0 := fun e => z (H1 e)
  have c : gv_ty mb n (gv_od mb n p) ≠ 1 := fun e => z1 (H2 e)
  omega
/-- the picture with block b of frame f written -/
def gv_wb (R : Nat → Int32) (f b : Nat) (v : Nat → Int32) : Nat → Int32 := gv_wr R (fun t => f * 64 + gv_id b t) v 16
theorem gv_wb_h {R v : Nat → Int32} {f b t : Nat} (hb : b < 4) (ht : t < 16) : gv_wb R f b v (f * 64 + gv_id b t) = v t :=
  gv_wr_h (g := fun t => f * 64 + gv_id b t) 16 (fun j hj e => gv_id_inj b hb t ht j hj (by omega)) ht
theorem gv_wb_f {R v : Nat → Int32} {f g b j : Nat} (hb : b < 4) (hj : j < 64) (h : g ≠ f) : gv_wb R f b v (g * 64 + j) = R (g * 64 + j) :=
  gv_wr_m 16 (fun i hi => by have := gv_id_lt b hb i hi; omega)
theorem gv_wb_b {R v : Nat → Int32} {f b c t : Nat} (hb : b < 4) (hc : c < 4) (ht : t < 16) (h : c ≠ b) : gv_wb R f b v (f * 64 + gv_id c t) = R (f * 64 + gv_id c t) :=
  gv_wr_m 16 (fun i hi e => h (gv_id_blk c hc b hb t ht i hi (by omega)))
theorem gv_wb_p {R v : Nat → Int32} {f b : Nat} (h : gv_P R) (hv : ∀ t, t < 16 → gv_px (v t)) : gv_P (gv_wb R f b v) := gv_P_w h 16 hv
/-- a later block's pixels leave an earlier record true -/
theorem gv_CB_R {q mb n p b P B : Nat} {st R v : Nat → Int32} (hm : mb < 4) (hn : n < 9) (hP : P < n) (hp : p ≤ P) (hb : b < 4) (hB : B < 4) (hne : p < P ∨ b ≠ B)
    (H : gv_CB q mb n st R p b) : gv_CB q mb n st (gv_wb R (gv_od mb n P) B v) p b := by
  have U := gv_use H
  obtain ⟨H1, H2, H3⟩ := H
  have N := gv_pa_ne mb hm n hn P hP p hp
  refine ⟨H1, H2, fun t ht => ?_⟩
  have e : gv_wb R (gv_od mb n P) B v (gv_od mb n p * 64 + gv_id b t) = R (gv_od mb n p * 64 + gv_id b t) := by
    by_cases c : p = P
    · subst c; exact gv_wb_b hB hb ht (by omega)
    · exact gv_wb_f hB (gv_id_lt b hb t ht) (fun e => c (gv_od_inj mb hm n hn p (by omega) P hP e))
  rw [e, H3 t ht]
  refine gv_rb_c q (gv_pr_c (fun _ _ => rfl) (fun m0 _ => ⟨rfl, fun j hj => ?_⟩) (fun m0 m1 => ⟨rfl, fun j hj => ?_⟩) t) (fun _ _ => rfl)
  · exact (gv_wb_f hB hj (N.1 (U.1 m0))).symm
  · exact (gv_wb_f hB hj (N.2 (U.2 m0 m1))).symm
/-- the block just written -/
theorem gv_CB_new {q mb n P B m : Nat} {st R V L : Nat → Int32} (hm : mb < 4) (hn : n < 9) (hP : P < n) (hB : B < 4)
    (h0 : gv_ty mb n (gv_od mb n P) = 0 → m = 0) (h1 : gv_ty mb n (gv_od mb n P) = 1 → m = 1)
    (em : gv_sq st (gv_bs P B) = m) (eV : ∀ c, c < 4 → gv_sv st (gv_bs P B) c = V c) (eL : ∀ k, k < 16 → gv_sl st (gv_bs P B) k = L k) :
    gv_CB q mb n st (gv_wb R (gv_od mb n P) B (gv_rb (gv_pr R B m V (gv_pa mb n (gv_od mb n P)) (gv_na mb n (gv_od mb n P))) L q)) P B := by
  subst em
  have N := gv_pa_ne mb hm n hn P hP P (Nat.le_refl _)
  have T := gv_ty_3 mb n (gv_od mb n P)
  refine ⟨h0, h1, fun t ht => ?_⟩
  rw [gv_wb_h hB ht]
  refine gv_rb_c q (gv_pr_c (fun c hc => (eV c hc).symm) (fun m0 _ => ⟨rfl, fun j hj => ?_⟩) (fun m0 m1 => ⟨rfl, fun j hj => ?_⟩) t) (fun s hs => (eL s hs).symm)
  · exact (gv_wb_f hB hj (N.1 (fun e => m0 (h0 e)))).symm
  · refine (gv_wb_f hB hj (N.2 ?_)).symm
    have a : gv_ty mb n (gv_od mb n P) ≠ 0 := fun e => m0 (h0 e)
    have c : gv_ty mb n (gv_od mb n P) ≠ 1 := fun e => m1 (h1 e)
    omega
/-- all records before block b of position p -/
def gv_J (q mb n : Nat) (st R : Nat → Int32) (p b : Nat) : Prop :=
  (∀ s, s < p → gv_HD q mb n st s) ∧ ∀ s c, c < 4 → (s < p ∨ (s = p ∧ c < b)) → gv_CB q mb n st R s c
theorem gv_J_0 (q mb n : Nat) (st R : Nat → Int32) : gv_J q mb n st R 0 0 := ⟨fun s hs => by omega, fun s c _ h => by omega⟩
theorem gv_J_h {q mb n p : Nat} {st st' R : Nat → Int32} (h : ∀ j, j < 899 * p → st j = st' j) (H : gv_J q mb n st R p 0) : gv_J q mb n st' R p 0 := by
  obtain ⟨H1, H3⟩ := H
  refine ⟨fun s hs => gv_HD_c (fun j hj => h j (by omega)) (H1 s hs), fun s c hc hs => gv_CB_st (fun j hj => ?_) (H3 s c hc hs)⟩
  unfold gv_bs at hj
  exact h j (by omega)
theorem gv_J_st {q mb n p b : Nat} {st st' R : Nat → Int32} (h : ∀ j, j < gv_bs p b → st j = st' j) (H : gv_J q mb n st R p b) : gv_J q mb n st' R p b := by
  unfold gv_bs at h
  obtain ⟨H1, H3⟩ := H
  refine ⟨fun s hs => gv_HD_c (fun j hj => h j (by omega)) (H1 s hs), fun s c hc hs => gv_CB_st (fun j hj => ?_) (H3 s c hc hs)⟩
  unfold gv_bs at hj
  exact h j (by omega)
theorem gv_J_n {q mb n p : Nat} {st R : Nat → Int32} (H : gv_J q mb n st R p 4) (h : gv_HD q mb n st p) : gv_J q mb n st R (p + 1) 0 := by
  obtain ⟨H1, H3⟩ := H
  refine ⟨fun s hs => ?_, fun s c hc hs => H3 s c hc (by omega)⟩
  by_cases e : s = p
  · subst e; exact h
  · exact H1 s (by omega)
theorem gv_J_b {q mb n P B m : Nat} {st st' R V L : Nat → Int32} (hm : mb < 4) (hn : n < 9) (hP : P < n) (hB : B < 4)
    (h0 : gv_ty mb n (gv_od mb n P) = 0 → m = 0) (h1 : gv_ty mb n (gv_od mb n P) = 1 → m = 1)
    (em : gv_sq st' (gv_bs P B) = m) (eV : ∀ c, c < 4 → gv_sv st' (gv_bs P B) c = V c) (eL : ∀ k, k < 16 → gv_sl st' (gv_bs P B) k = L k)
    (h : ∀ j, j < gv_bs P B → st j = st' j) (H : gv_J q mb n st R P B) :
    gv_J q mb n st' (gv_wb R (gv_od mb n P) B (gv_rb (gv_pr R B m V (gv_pa mb n (gv_od mb n P)) (gv_na mb n (gv_od mb n P))) L q)) P (B + 1) := by
  obtain ⟨H1, H3⟩ := gv_J_st h H
  refine ⟨H1, fun s c hc hs => ?_⟩
  by_cases e : s = P ∧ c = B
  · obtain ⟨rfl, rfl⟩ := e
    exact gv_CB_new hm hn hP hB h0 h1 em eV eL
  · exact gv_CB_R hm hn hP (by omega) hc hB (by omega) (H3 s c hc (by omega))
/-- the decoder's pictures: the first d frames, and b blocks of the next -/
def gv_D (mb n : Nat) (R D : Nat → Int32) (d b : Nat) : Prop :=
  (∀ p, p < d → ∀ j, j < 64 → D (gv_od mb n p * 64 + j) = R (gv_od mb n p * 64 + j)) ∧
  ∀ c, c < b → ∀ t, t < 16 → D (gv_od mb n d * 64 + gv_id c t) = R (gv_od mb n d * 64 + gv_id c t)
theorem gv_D_n {mb n d : Nat} {R D : Nat → Int32} (H : gv_D mb n R D d 4) : gv_D mb n R D (d + 1) 0 := by
  refine ⟨fun p hp j hj => ?_, fun c hc => by omega⟩
  by_cases e : p = d
  · subst e
    obtain ⟨a, b, c⟩ := gv_id_all j hj
    have := H.2 _ a _ b
    rw [c] at this
    exact this
  · exact H.1 p (by omega) j hj
theorem gv_D_s {q mb n d b past next : Nat} {st R D : Nat → Int32} (hm : mb < 4) (hn : n < 9) (hd : d < n) (hb : b < 4)
    (hC : gv_CB q mb n st R d b) (hpast : past = if gv_ty mb n (gv_od mb n d) = 2 then gv_ol mb n d else gv_nw mb n d) (hnext : next = gv_nw mb n d) (H : gv_D mb n R D d b) :
    gv_D mb n R (gv_wb D (gv_od mb n d) b (gv_rb (gv_pr D b (gv_sq st (gv_bs d b)) (gv_sv st (gv_bs d b)) past next) (gv_sl st (gv_bs d b)) q)) d (b + 1) := by
  have U := gv_use hC
  obtain ⟨-, -, C⟩ := hC
  have T := gv_ty_3 mb n (gv_od mb n d)
  refine ⟨fun p hp j hj => ?_, fun c hc t ht => ?_⟩
  · rw [gv_wb_f hb hj (fun e => by have := gv_od_inj mb hm n hn p (by omega) d hd e; omega)]
    exact H.1 p hp j hj
  by_cases e : c = b
  · subst e
    rw [gv_wb_h hb ht, C t ht]
    refine gv_rb_c q (gv_pr_c (fun _ _ => rfl) (fun m0 m2 => ?_) (fun m0 m1 => ?_) t) (fun _ _ => rfl)
    · have k := U.1 m0
      by_cases t2 : gv_ty mb n (gv_od mb n d) = 2
      · obtain ⟨a1, a2, a3, a4⟩ := gv_an_B mb hm n hn d hd t2
        rw [if_pos t2, a1] at hpast
        subst hpast
        obtain ⟨p, hp, ep⟩ := gv_in_e a3
        refine ⟨rfl, fun j hj => ?_⟩
        rw [← ep]
        exact H.1 p hp j hj
      · obtain ⟨a1, a3⟩ := gv_an_P mb hm n hn d hd (by omega)
        rw [if_neg t2, a1] at hpast
        subst hpast
        obtain ⟨p, hp, ep⟩ := gv_in_e a3
        refine ⟨rfl, fun j hj => ?_⟩
        rw [← ep]
        exact H.1 p hp j hj
    · have t2 := U.2 m0 m1
      obtain ⟨a1, a2, a3, a4⟩ := gv_an_B mb hm n hn d hd t2
      rw [a2] at hnext
      subst hnext
      obtain ⟨p, hp, ep⟩ := gv_in_e a4
      refine ⟨rfl, fun j hj => ?_⟩
      rw [← ep]
      exact H.1 p hp j hj
  · rw [gv_wb_b hb (by omega) ht e]
    exact H.2 c (by omega) t ht
/-- the number of frames given out -/
def gv_OC (mb n d o : Nat) : Prop := o ≤ n ∧ (∀ k, k < o → gv_in mb n d k = true) ∧ (o < n → gv_in mb n d o = false)
theorem gv_in_s (mb n d f : Nat) : gv_in mb n (d + 1) f = (gv_in mb n d f || (gv_od mb n d == f)) := by
  unfold gv_in
  rw [List.range_succ, List.any_append]
  simp
theorem gv_in_0 (mb n f : Nat) : gv_in mb n 0 f = false := rfl
theorem gv_OC_u {mb n d o o' : Nat} (h : gv_OC mb n d o) (h' : gv_OC mb n d o') : o = o' := by
  obtain ⟨a, b, c⟩ := h
  obtain ⟨a', b', c'⟩ := h'
  rcases Nat.lt_trichotomy o o' with z | z | z
  · have := b' o z; rw [c (by omega)] at this; cases this
  · exact z
  · have := b o' z; rw [c' (by omega)] at this; cases this
