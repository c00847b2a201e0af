/-! X: searchMotion, chooseMode, dropUnusedVectors -/
def gv_XS (C L : gv_F) (r at' : Nat) (v0 : gv_F) (i : Nat) (x5 x6 : Int32) (v : gv_F) : Prop :=
  ((i = 0 ∧ x5 = 1000000) ∨ (0 < i ∧ x5 = C (gv_bi C L i) ∧ x6 = L (gv_bi C L i) ∧ v at' = gv_vx r (gv_bi C L i) ∧ v (at' + 1) = gv_vy r (gv_bi C L i))) ∧ ∀ c, c ≠ at' → c ≠ at' + 1 → v c = v0 c
theorem gv_XS_t {C L : gv_F} {r at' i : Nat} {v0 v : gv_F} {x5 x6 : Int32} (H : gv_XS C L r at' v0 i x5 x6 v) (c : C i < x5 ∨ (C i = x5 ∧ L i < x6)) :
    gv_XS C L r at' v0 (i + 1) (C i) (L i) (upd (upd v at' (gv_vx r i)) (at' + 1) (gv_vy r i)) := by
  obtain ⟨H, K⟩ := H
  have e : gv_bi C L (i + 1) = i := by
    rcases H with ⟨rfl, -⟩ | ⟨h0, rfl, rfl, -, -⟩
    · rfl
    · exact gv_bi_t (by omega) c
  refine ⟨Or.inr ⟨by omega, ?_⟩, fun k h1 h2 => ?_⟩
  · rw [e]
    exact ⟨rfl, rfl, by rw [pk_un (by omega), pk_us], pk_us⟩
  · rw [pk_un h2, pk_un h1]; exact K k h1 h2
theorem gv_XS_k {C L : gv_F} {r at' i : Nat} {v0 v : gv_F} {x5 x6 : Int32} (hC : (C i).toInt ≤ 4080) (H : gv_XS C L r at' v0 i x5 x6 v) (c : ¬ (C i < x5 ∨ (C i = x5 ∧ L i < x6))) :
    gv_XS C L r at' v0 (i + 1) x5 x6 v := by
  obtain ⟨H, K⟩ := H
  refine ⟨?_, K⟩
  rcases H with ⟨rfl, e⟩ | ⟨h0, h1, h2, h3, h4⟩
  · refine absurd (Or.inl ?_) c
    rw [e, gv_lt, show (1000000 : Int32).toInt = 1000000 from by decide]
    omega
  · have e : gv_bi C L (i + 1) = gv_bi C L i := by
      subst h1 h2
      exact gv_bi_f (by omega) c
    rw [e]
    exact Or.inr ⟨by omega, h1, h2, h3, h4⟩
theorem gv_vr : ∀ r, r < 3 → ∀ j, j < 2 * r + 2 → (nI r < nI j - nI r ↔ 2 * r < j) := by decide +kernel
theorem gv_v1 : ∀ r, r < 3 → ∀ j, j < 6 → (nI j - nI r) + 1 = nI (j + 1) - nI r := by decide +kernel
theorem gv_v0 : ∀ r, r < 3 → -nI r = nI 0 - nI r := by decide +kernel
theorem gv_vxe {r a j : Nat} (hj : j < 2 * r + 1) : gv_vx r (a * (2 * r + 1) + j) = nI j - nI r ∧ gv_vy r (a * (2 * r + 1) + j) = nI a - nI r := by
  unfold gv_vx gv_vy
  have e1 : (a * (2 * r + 1) + j) % (2 * r + 1) = j := by rw [Nat.mul_comm, Nat.mul_add_mod, Nat.mod_eq_of_lt hj]
  have e2 : (a * (2 * r + 1) + j) / (2 * r + 1) = a := by
    rw [Nat.mul_comm, Nat.mul_add_div (by omega), Nat.div_eq_of_lt hj, Nat.add_zero]
  rw [e1, e2]
  exact ⟨rfl, rfl⟩
section
variable {qu rg bf ph fc dc oc wp rp oa na : Int32} {inp rec dcd typ ord mod vcs nzs str isd vct bwd prd res cof lev : Nat → Int32}
variable {r f b s A : Nat}
theorem gx_s30 {post : Int32 → SX → Prop} {JJ : Int32 → Int32 → Int32 → Int32 → Int32 → Int32 → Int32 → Int32 → Int32 → Int32 → Int32 → Int32 → Int32 → Int32 →  gv_F → gv_F → gv_F → gv_F → gv_F → gv_F → gv_F → gv_F → gv_F → gv_F → gv_F → gv_F → gv_F → gv_F → gv_F → gv_F →  Prop} {a : Nat} {v0 : gv_F} (hr : r < 3) (hf : f < 8) (hb : b < 4) (hs : s < 8) (hA : A + 1 < 4) (ha : a < 2 * r + 1) (hi : gv_P inp) (hR : gv_P rec)
    (h : ∀ (x5 x6 : Int32) (v P : gv_F), gv_XS (gv_sc inp rec r s f b) (gv_ln r) r A v0 ((a + 1) * (2 * r + 1)) x5 x6 v → JJ x5 x6 (nI (a + 1) - nI r) qu (nI r) bf ph fc dc oc wp rp oa na inp rec dcd typ ord mod vcs nzs str isd v bwd P res cof lev) :
    ∀ d j n, j + d = 2 * r + 1 → d < n → ∀ (x5 x6 : Int32) (v P : gv_F), gv_XS (gv_sc inp rec r s f b) (gv_ln r) r A v0 (a * (2 * r + 1) + j) x5 x6 v →
      wX_searchMotion_30 post JJ (nI f) (nI b) (nI s) (nI A) (nI a - nI r) n x5 x6 (nI j - nI r) qu (nI r) bf ph fc dc oc wp rp oa na inp rec dcd typ ord mod vcs nzs str isd v bwd P res cof lev := by
  intro d
  induction d with
  | zero =>
    intro j n hj hn x5 x6 v P H
    obtain ⟨n, rfl⟩ : ∃ m, n = m + 1 := ⟨n - 1, by omega⟩
    obtain rfl : j = 2 * r + 1 := by omega
    rw [show a * (2 * r + 1) + (2 * r + 1) = (a + 1) * (2 * r + 1) from (Nat.succ_mul _ _).symm] at H
    exact br_t ((gv_vr r hr _ (by omega)).mpr (by omega)) (nm_r (gv_v1 r hr a (by omega)) (h x5 x6 v P H))
  | succ d ih =>
    intro j n hj hn x5 x6 v P H
    obtain ⟨n, rfl⟩ : ∃ m, n = m + 1 := ⟨n - 1, by omega⟩
    obtain ⟨ex, ey⟩ := gv_vxe (r := r) (a := a) (j := j) (by omega)
    have e8 := gv_v1 r hr j (by omega)
    have hC := (gv_sc_b hi hR r s f b (a * (2 * r + 1) + j)).2
    have I := fun x5 x6 v P => ih (j + 1) n (by omega) (by omega) x5 x6 v P
    rw [← Nat.add_assoc] at I
    refine br_f (fun z => by have := (gv_vr r hr j (by omega)).mp z; omega) (gx_fetch_recon_prediction hs hb (fun P' hP' => gx_cost hf hb hP' (gx_abs (gx_abs (nm_e ?_)))))
    have eC : gv_ct inp f b (gv_ft rec s b (nI j - nI r) (nI a - nI r)) = gv_sc inp rec r s f b (a * (2 * r + 1) + j) := by
      unfold gv_sc; rw [ex, ey]
    have eL : gv_ab (nI j - nI r) + gv_ab (nI a - nI r) = gv_ln r (a * (2 * r + 1) + j) := by
      unfold gv_ln; rw [ex, ey]
    rw [eC, eL]
    have T := @gv_XS_t _ _ r A _ v0 v x5 x6 H
    have K := @gv_XS_k _ _ r A _ v0 v x5 x6 hC H
    rw [ex, ey] at T
    have W : (gv_sc inp rec r s f b (a * (2 * r + 1) + j) < x5 ∨ (gv_sc inp rec r s f b (a * (2 * r + 1) + j) = x5 ∧ gv_ln r (a * (2 * r + 1) + j) < x6)) → wX_searchMotion_98 post JJ (wX_searchMotion_30 post JJ (nI f) (nI b) (nI s) (nI A) (nI a - nI r) n) (nI f) (nI b) (nI s) (nI A) (nI a - nI r) (nI j - nI r) (gv_sc inp rec r s f b (a * (2 * r + 1) + j)) (gv_ln r (a * (2 * r + 1) + j)) qu (nI r) bf ph fc dc oc wp rp oa na inp rec dcd typ ord mod vcs nzs str isd v bwd P' res cof lev := by
      intro c
      refine ⟨vp_in_nI (by omega) (by decide), nm_r (e' := upd v A (nI j - nI r)) (by rw [nI_clamp (by omega)]) ⟨by rw [nI_1]; exact vp_in_nI hA (by decide), nm_r (e' := upd (upd v A (nI j - nI r)) (A + 1) (nI a - nI r)) (by rw [nI_1, nI_clamp (by omega)]) (nm_r e8 (I _ _ _ _ (T c)))⟩⟩
    refine br_c (fun c1 => W (Or.inl c1)) (fun c1 => br_c (fun c2 => br_c (fun c3 => nm_r e8 (I _ _ _ _ (K ?_))) (fun c3 => W (Or.inr ⟨c2, Int32.not_le.mp c3⟩))) (fun c2 => nm_r e8 (I _ _ _ _ (K ?_))))
    · rintro (z | ⟨-, z⟩)
      · exact c1 z
      · exact Int32.not_lt.mpr c3 z
    · rintro (z | ⟨z, -⟩)
      · exact c1 z
      · exact c2 z
theorem gx_s14 {post : Int32 → SX → Prop} {v0 : gv_F} (hr : r < 3) (hf : f < 8) (hb : b < 4) (hs : s < 8) (hA : A + 1 < 4) (hi : gv_P inp) (hR : gv_P rec)
    (h : ∀ (x5 x6 : Int32) (v P : gv_F), gv_XS (gv_sc inp rec r s f b) (gv_ln r) r A v0 ((2 * r + 1) * (2 * r + 1)) x5 x6 v → post x5 (qu, nI r, bf, ph, fc, dc, oc, wp, rp, oa, na, inp, rec, dcd, typ, ord, mod, vcs, nzs, str, isd, v, bwd, P, res, cof, lev)) :
    ∀ d a n, a + d = 2 * r + 1 → d < n → ∀ (x5 x6 : Int32) (v P : gv_F), gv_XS (gv_sc inp rec r s f b) (gv_ln r) r A v0 (a * (2 * r + 1)) x5 x6 v →
      wX_searchMotion_14 post (nI f) (nI b) (nI s) (nI A) n x5 x6 (nI a - nI r) qu (nI r) bf ph fc dc oc wp rp oa na inp rec dcd typ ord mod vcs nzs str isd v bwd P res cof lev := by
  intro d
  induction d with
  | zero =>
    intro a n ha hn x5 x6 v P H
    obtain ⟨n, rfl⟩ : ∃ m, n = m + 1 := ⟨n - 1, by omega⟩
    obtain rfl : a = 2 * r + 1 := by omega
    exact br_t ((gv_vr r hr _ (by omega)).mpr (by omega)) (h x5 x6 v P H)
  | succ d ih =>
    intro a n ha hn x5 x6 v P H
    obtain ⟨n, rfl⟩ : ∃ m, n = m + 1 := ⟨n - 1, by omega⟩
    exact br_f (fun z => by have := (gv_vr r hr a (by omega)).mp z; omega) (nm_r (gv_v0 r hr) ⟨2 * r + 2, gx_s30 hr hf hb hs hA (by omega) hi hR (fun x5 x6 v P H' => ih (a + 1) n (by omega) (by omega) x5 x6 v P H') (2 * r + 1) 0 (2 * r + 2) (by omega) (by omega) x5 x6 v P H⟩)
theorem gx_search {post : Int32 → SX → Prop} (hr : r < 3) (hf : f < 8) (hb : b < 4) (hs : s < 8) (hA : A + 1 < 4) (hi : gv_P inp) (hR : gv_P rec)
    (h : ∀ v P : gv_F, v A = gv_vx r (gv_se inp rec r s f b) → v (A + 1) = gv_vy r (gv_se inp rec r s f b) → (∀ c, c ≠ A → c ≠ A + 1 → v c = vct c) → post (gv_c1 inp rec r f b s) (qu, nI r, bf, ph, fc, dc, oc, wp, rp, oa, na, inp, rec, dcd, typ, ord, mod, vcs, nzs, str, isd, v, bwd, P, res, cof, lev)) :
    wpX_searchMotion post (qu, nI r, bf, ph, fc, dc, oc, wp, rp, oa, na, inp, rec, dcd, typ, ord, mod, vcs, nzs, str, isd, vct, bwd, prd, res, cof, lev) (nI f) (nI b) (nI s) (nI A) := by
  refine nm_r (gv_v0 r hr) ⟨2 * r + 2, gx_s14 (v0 := vct) hr hf hb hs hA hi hR (fun x5 x6 v P H => ?_) (2 * r + 1) 0 (2 * r + 2) (by omega) (by omega) 1000000 0 vct prd ⟨Or.inl ⟨by omega, rfl⟩, fun _ _ _ => rfl⟩⟩
  obtain ⟨H, K⟩ := H
  rcases H with ⟨z, -⟩ | ⟨-, h1, h2, h3, h4⟩
  · have : 0 < (2 * r + 1) * (2 * r + 1) := Nat.mul_pos (by omega) (by omega)
    omega
  · subst h1
    exact h v P h3 h4 K
variable {past next ty : Nat}
theorem gx_choose {post : Int32 → SX → Prop} (hr : r < 3) (hf : f < 8) (hb : b < 4) (hp : past < 8) (hn : next < 8) (ht3 : ty < 3) (ht : typ f = nI ty) (hi : gv_P inp) (hR : gv_P rec)
    (h : ∀ V P Q : gv_F, (ty ≠ 0 → V 0 = gv_vu inp rec r f b past next 0 ∧ V 1 = gv_vu inp rec r f b past next 1) → (ty = 2 → V 2 = gv_vu inp rec r f b past next 2 ∧ V 3 = gv_vu inp rec r f b past next 3) →
      post (nI (gv_mo inp rec r ty f b past next)) (qu, nI r, bf, ph, fc, dc, oc, wp, rp, oa, na, inp, rec, dcd, typ, ord, mod, vcs, nzs, str, isd, V, Q, P, res, cof, lev)) : wpX_chooseMode post (qu, nI r, bf, ph, fc, dc, oc, wp, rp, oa, na, inp, rec, dcd, typ, ord, mod, vcs, nzs, str, isd, vct, bwd, prd, res, cof, lev) (nI f) (nI b) (nI past) (nI next) := by
  have hv : vp_in (nI f) 8 := vp_in_nI hf (by decide)
  have ht' : typ (nI f).toNatClampNeg = nI ty := by rw [nI_clamp (by omega)]; exact ht
  refine ⟨hv, ?_⟩
  by_cases t0 : ty = 0
  · refine br_t (by rw [ht', t0]; rfl) ?_
    have := h vct prd bwd (fun z => absurd t0 z) (fun z => by omega)
    rw [gv_mo_0 t0] at this
    exact this
  refine br_f (by rw [ht']; exact nI_ne0 (by omega) (by omega)) (gx_search hr hf hb hp (by decide) hi hR (fun v P h1 h2 h3 => ⟨hv, ?_⟩))
  by_cases t1 : ty = 1
  · refine br_t (by rw [ht', t1]; rfl) ?_
    have := h v P bwd (fun _ => ⟨h1, h2⟩) (fun z => by omega)
    rw [gv_mo_1 t1] at this
    exact this
  have t2 : ty = 2 := by omega
  refine br_f (by rw [ht', t2]; decide) (gx_search hr hf hb hn (by decide) hi hR (fun V P' g1 g2 g3 => ?_))
  have hV : ∀ c, c < 4 → V c = gv_vu inp rec r f b past next c := by
    intro c hc
    rcases (by omega : c = 0 ∨ c = 1 ∨ c = 2 ∨ c = 3) with rfl | rfl | rfl | rfl
    · rw [g3 0 (by decide) (by decide)]; exact h1
    · rw [g3 1 (by decide) (by decide)]; exact h2
    · exact g1
    · exact g2
  refine gx_pred_recon (m := 3) hb (by decide) hp hn (fun P2 Q hP2 => gx_cost (P := gv_pr rec b 3 (gv_vu inp rec r f b past next) past next) hf hb (fun t ht => ?_) ?_)
  · rw [hP2 t ht]
    exact gv_pr_c hV (fun _ _ => ⟨rfl, fun _ _ => rfl⟩) (fun _ _ => ⟨rfl, fun _ _ => rfl⟩) t
  have F := h V P2 Q (fun _ => ⟨hV 0 (by decide), hV 1 (by decide)⟩) (fun _ => ⟨hV 2 (by decide), hV 3 (by decide)⟩)
  rw [gv_mo_2 t2] at F
  have W : ¬ (gv_c1 inp rec r f b past ≤ gv_c1 inp rec r f b next ∧ gv_c1 inp rec r f b past ≤ gv_c3 inp rec r f b past next) → wX_chooseMode_81 post (gv_c1 inp rec r f b next) (gv_c3 inp rec r f b past next) qu (nI r) bf ph fc dc oc wp rp oa na inp rec dcd typ ord mod vcs nzs str isd V Q P2 res cof lev := by
    intro c
    rw [if_neg c] at F
    refine br_c (fun d => ?_) (fun d => ?_)
    · rw [if_neg (Int32.not_le.mpr d)] at F; exact F
    · rw [if_pos (Int32.not_lt.mp d)] at F; exact F
  refine br_c (fun c => W (fun z => Int32.not_lt.mpr z.1 c)) (fun c => br_c (fun d => W (fun z => Int32.not_lt.mpr z.2 d)) (fun d => ?_))
  rw [if_pos ⟨Int32.not_lt.mp c, Int32.not_lt.mp d⟩] at F
  exact F
theorem gx_drop {post : SX → Prop} {m : Nat} {W : gv_F} (hm : m < 4) (h0 : m = 1 ∨ m = 3 → vct 0 = W 0 ∧ vct 1 = W 1) (h2 : m = 2 ∨ m = 3 → vct 2 = W 2 ∧ vct 3 = W 3)
    (z0 : ¬ (m = 1 ∨ m = 3) → W 0 = 0 ∧ W 1 = 0) (z2 : ¬ (m = 2 ∨ m = 3) → W 2 = 0 ∧ W 3 = 0)
    (h : ∀ V : gv_F, (∀ c, c < 4 → V c = W c) → post (qu, rg, bf, ph, fc, dc, oc, wp, rp, oa, na, inp, rec, dcd, typ, ord, mod, vcs, nzs, str, isd, V, bwd, prd, res, cof, lev)) : wpX_dropUnusedVectors post (qu, rg, bf, ph, fc, dc, oc, wp, rp, oa, na, inp, rec, dcd, typ, ord, mod, vcs, nzs, str, isd, vct, bwd, prd, res, cof, lev) (nI m) := by
  have T : ∀ V : gv_F, V 0 = W 0 → V 1 = W 1 → V 2 = W 2 → V 3 = W 3 → ∀ c, c < 4 → V c = W c := by
    intro V a0 a1 a2 a3 c hc
    rcases (by omega : c = 0 ∨ c = 1 ∨ c = 2 ∨ c = 3) with rfl | rfl | rfl | rfl <;> assumption
  rcases (by omega : m = 0 ∨ m = 1 ∨ m = 2 ∨ m = 3) with rfl | rfl | rfl | rfl
  · have a := z0 (by decide)
    have c := z2 (by decide)
    refine br_f (by decide) (br_f (by decide) (nm_e (nm_e (br_f (by decide) (br_f (by decide) (nm_e (nm_e (h _ (T _ ?_ ?_ ?_ ?_)))))))))
    · rw [a.1]; rfl
    · rw [a.2]; rfl
    · rw [c.1]; rfl
    · rw [c.2]; rfl
  · have a := h0 (by decide)
    have c := z2 (by decide)
    refine br_t rfl (br_f (by decide) (br_f (by decide) (nm_e (nm_e (h _ (T _ ?_ ?_ ?_ ?_))))))
    · exact a.1
    · exact a.2
    · rw [c.1]; rfl
    · rw [c.2]; rfl
  · have a := z0 (by decide)
    have c := h2 (by decide)
    refine br_f (by decide) (br_f (by decide) (nm_e (nm_e (br_t rfl (h _ (T _ ?_ ?_ ?_ ?_))))))
    · rw [a.1]; rfl
    · rw [a.2]; rfl
    · exact c.1
    · exact c.2
  · have a := h0 (by decide)
    have c := h2 (by decide)
    exact br_f (by decide) (br_t rfl (br_f (by decide) (br_t rfl (h _ (T _ a.1 a.2 c.1 c.2)))))
end
