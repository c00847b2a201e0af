/-! X: codeFrame, encode -/
theorem gv_HD_new {q mb n p : Nat} {S : gv_F} (hf : gv_od mb n p < 8) (hq : q ≤ 64) (h1 : 1 ≤ q) : gv_HD q mb n (gv_ws (gv_ws (gv_ws S (899 * p) (gv_od mb n p) 3 3) (899 * p + 3) (gv_ty mb n (gv_od mb n p)) 2 2) (899 * p + 3 + 2) (q - 1) 6 6) p := by
  have ht := gv_ty_3 mb n (gv_od mb n p)
  refine ⟨?_, ?_, ?_⟩
  · rw [gv_rd_lo (S' := gv_ws S (899 * p) (gv_od mb n p) 3 3) (P := 899 * p + 3) (fun j hj => by rw [gv_ws_m (by omega), gv_ws_m (by omega)]) (by omega)]
    exact gv_rd_ws (by omega)
  · rw [gv_rd_lo (S' := gv_ws (gv_ws S (899 * p) (gv_od mb n p) 3 3) (899 * p + 3) (gv_ty mb n (gv_od mb n p)) 2 2) (P := 899 * p + 5) (fun j hj => by rw [gv_ws_m (by omega)]) (by omega)]
    exact gv_rd_ws (by omega)
  · exact gv_rd_ws (by omega)
section
variable {qu rg bf ph fc dc oc wp rp oa na : Int32} {inp rec dcd typ ord mod vcs nzs str isd vct bwd prd res cof lev : Nat → Int32}
variable {q r mb N p : Nat} {G : Nat → gv_Q}
theorem gx_cf44 {post : SX → Prop} (hq1 : 1 ≤ q) (hq2 : q ≤ 64) (hr : r < 3) (hm : mb < 4) (hN : N < 9) (hp : p < N) (hT : ∀ k, k < N → typ k = nI (gv_ty mb N k)) (hi : gv_P inp)
    (hG : ∀ b, b < 4 → gv_blk inp q r (gv_ty mb N (gv_od mb N p)) (gv_od mb N p) b (gv_pa mb N (gv_od mb N p)) (gv_na mb N (gv_od mb N p)) (G (4 * p + b)) = G (4 * p + b + 1)) (hP : ∀ k, gv_P (G k).1)
    (h : ∀ S vct bwd prd res cof lev : gv_F, gv_J q mb N S (G (4 * p + 4)).1 p 4 → gv_HD q mb N S p → post (nI q, nI r, bf, ph, fc, dc, oc, nI (gv_bs p 4), rp, oa, na, inp, (G (4 * p + 4)).1, dcd, typ, ord, (G (4 * p + 4)).2.1, (G (4 * p + 4)).2.2.1, (G (4 * p + 4)).2.2.2, S, isd, vct, bwd, prd, res, cof, lev)) :
    ∀ d b n, b + d = 4 → d < n → ∀ S vct bwd prd res cof lev : gv_F, gv_J q mb N S (G (4 * p + b)).1 p b → gv_HD q mb N S p →
      wX_codeFrame_44 post (nI (gv_od mb N p)) (nI (gv_pa mb N (gv_od mb N p))) (nI (gv_na mb N (gv_od mb N p))) n (nI b) (nI q) (nI r) bf ph fc dc oc (nI (gv_bs p b)) rp oa na inp ((G (4 * p + b)).1) dcd typ ord ((G (4 * p + b)).2.1) ((G (4 * p + b)).2.2.1) ((G (4 * p + b)).2.2.2) S isd vct bwd prd res cof lev := by
  have hfN := gv_od_lt mb hm N hN p hp
  have hpn := gv_pa_lt mb hm N hN _ hfN
  intro d
  induction d with
  | zero =>
    intro b n hb hn S vct bwd prd res cof lev HJ HH
    obtain ⟨n, rfl⟩ : ∃ m, n = m + 1 := ⟨n - 1, by omega⟩
    obtain rfl : b = 4 := by omega
    exact br_t (by decide) (h S vct bwd prd res cof lev HJ HH)
  | succ d ih =>
    intro b n hb hn S vct bwd prd res cof lev HJ HH
    obtain ⟨n, rfl⟩ : ∃ m, n = m + 1 := ⟨n - 1, by omega⟩
    have hb4 : b < 4 := by omega
    have e := hG b hb4
    have I := ih (b + 1) n (by omega) (by omega)
    rw [show 4 * p + (b + 1) = 4 * p + b + 1 from rfl, ← e] at I
    have hR := hP (4 * p + b)
    generalize G (4 * p + b) = s at HJ I hR e ⊢
    clear e hG h
    have hf8 : gv_od mb N p < 8 := by omega
    have ht3 := gv_ty_3 mb N (gv_od mb N p)
    have hBs : gv_bs p b + 222 ≤ 7192 := by unfold gv_bs; omega
    have hw : gv_bs p (b + 1) = gv_bs p b + 222 := by unfold gv_bs; omega
    have hm4 := gv_mo_4 inp s.1 r (gv_ty mb N (gv_od mb N p)) (gv_od mb N p) b (gv_pa mb N (gv_od mb N p)) (gv_na mb N (gv_od mb N p))
    have tf := hT _ hfN
    have m0 : gv_ty mb N (gv_od mb N p) = 0 → gv_mo inp s.1 r (gv_ty mb N (gv_od mb N p)) (gv_od mb N p) b (gv_pa mb N (gv_od mb N p)) (gv_na mb N (gv_od mb N p)) = 0 := fun z => gv_mo_0 z
    have m1 : gv_ty mb N (gv_od mb N p) = 1 → gv_mo inp s.1 r (gv_ty mb N (gv_od mb N p)) (gv_od mb N p) b (gv_pa mb N (gv_od mb N p)) (gv_na mb N (gv_od mb N p)) = 1 := fun z => gv_mo_1 z
    refine br_f (nI_ge (b := 4) (by omega) (by decide)) (gx_choose hr hf8 hb4 (by omega) (by omega) ht3 tf hi hR (fun V P Q hV0 hV2 => gx_drop (W := gv_vv inp s.1 r (gv_mo inp s.1 r (gv_ty mb N (gv_od mb N p)) (gv_od mb N p) b (gv_pa mb N (gv_od mb N p)) (gv_na mb N (gv_od mb N p))) (gv_od mb N p) b (gv_pa mb N (gv_od mb N p)) (gv_na mb N (gv_od mb N p))) hm4 ?_ ?_ ?_ ?_ (fun V' hV' =>
      gx_pred_recon hb4 hm4 (by omega) (by omega) (fun P' Q' hP' => gx_quant (P := gv_pp s.1 inp r (gv_ty mb N (gv_od mb N p)) (gv_od mb N p) b (gv_pa mb N (gv_od mb N p)) (gv_na mb N (gv_od mb N p))) hq1 hq2 hf8 hb4 ?_ (fun A B L hL =>
      gx_wblock (L := gv_ll s.1 inp q r (gv_ty mb N (gv_od mb N p)) (gv_od mb N p) b (gv_pa mb N (gv_od mb N p)) (gv_na mb N (gv_od mb N p))) hm4 hBs hV' (fun c _ => gv_vv_b hr _ _ _ _ _ _) hL (fun k hk => gv_ll_b hi hR hq1 hq2 _ _ _ _ _ _ hk) (fun S' j1 j2 j3 j4 =>
      gx_rebuild_recon (P := gv_pp s.1 inp r (gv_ty mb N (gv_od mb N p)) (gv_od mb N p) b (gv_pa mb N (gv_od mb N p)) (gv_na mb N (gv_od mb N p))) (L := gv_ll s.1 inp q r (gv_ty mb N (gv_od mb N p)) (gv_od mb N p) b (gv_pa mb N (gv_od mb N p)) (gv_na mb N (gv_od mb N p))) hf8 hb4 ?_ hL (fun A B =>
      gx_keep hf8 hb4 hL (nm_r (nI_1 b) ?_))))))))
    · intro z
      have : gv_ty mb N (gv_od mb N p) ≠ 0 := fun y => by have := m0 y; omega
      rw [gv_vv_f (by omega) z, gv_vv_f (by omega) z]
      exact hV0 this
    · intro z
      have : gv_ty mb N (gv_od mb N p) = 2 := by
        rcases (by omega : gv_ty mb N (gv_od mb N p) = 0 ∨ gv_ty mb N (gv_od mb N p) = 1 ∨ gv_ty mb N (gv_od mb N p) = 2) with y | y | y
        · have := m0 y; omega
        · have := m1 y; omega
        · exact y
      rw [gv_vv_b2 (by omega) z, gv_vv_b2 (by omega) z]
      exact hV2 this
    · intro z
      exact ⟨gv_vv_f0 (by omega) z, gv_vv_f0 (by omega) z⟩
    · intro z
      exact ⟨gv_vv_b0 (by omega) z, gv_vv_b0 (by omega) z⟩
    · intro t ht
      rw [hP' t ht, gv_pr_c hV' (fun _ _ => ⟨rfl, fun _ _ => rfl⟩) (fun _ _ => ⟨rfl, fun _ _ => rfl⟩) t, gv_vv_pr hm4]
      rfl
    · intro t ht
      rw [hP' t ht, gv_pr_c hV' (fun _ _ => ⟨rfl, fun _ _ => rfl⟩) (fun _ _ => ⟨rfl, fun _ _ => rfl⟩) t, gv_vv_pr hm4]
      rfl
    · have J' := gv_J_b (q := q) hm hN hp hb4 m0 m1 j2 j3 j4 (fun j hj => (j1 j hj).symm) HJ
      rw [gv_nb_e (fun _ _ => rfl) (fun _ _ => rfl)] at J'
      rw [hw] at I
      rw [gv_w4_c hV']
      exact I S' V' Q' P' A B L J' (gv_HD_c (fun j hj => (j1 j (by unfold gv_bs; omega)).symm) HH)
theorem gx_codeFrame {post : SX → Prop} (hq1 : 1 ≤ q) (hq2 : q ≤ 64) (hr : r < 3) (hm : mb < 4) (hN : N < 9) (hp : p < N) (hT : ∀ k, k < N → typ k = nI (gv_ty mb N k)) (hi : gv_P inp)
    (hG : ∀ b, b < 4 → gv_blk inp q r (gv_ty mb N (gv_od mb N p)) (gv_od mb N p) b (gv_pa mb N (gv_od mb N p)) (gv_na mb N (gv_od mb N p)) (G (4 * p + b)) = G (4 * p + b + 1)) (hP : ∀ k, gv_P (G k).1)
    (HJ : gv_J q mb N str (G (4 * p)).1 p 0)
    (h : ∀ S vct bwd prd res cof lev : gv_F, gv_J q mb N S (G (4 * (p + 1))).1 (p + 1) 0 → post (nI q, nI r, bf, ph, nI N, dc, oc, nI (899 * (p + 1)), rp, oa, na, inp, (G (4 * (p + 1))).1, dcd, typ, ord, (G (4 * (p + 1))).2.1, (G (4 * (p + 1))).2.2.1, (G (4 * (p + 1))).2.2.2, S, isd, vct, bwd, prd, res, cof, lev)) :
    wpX_codeFrame post (nI q, nI r, bf, ph, nI N, dc, oc, nI (899 * p), rp, oa, na, inp, (G (4 * p)).1, dcd, typ, ord, (G (4 * p)).2.1, (G (4 * p)).2.2.1, (G (4 * p)).2.2.2, str, isd, vct, bwd, prd, res, cof, lev) (nI (gv_od mb N p)) := by
  have hfN := gv_od_lt mb hm N hN p hp
  have ht3 := gv_ty_3 mb N (gv_od mb N p)
  have tf := hT _ hfN
  refine gx_before (mb := mb) hN hfN hT (gx_after (mb := mb) hN hfN hT (gx_wb (gv_od mb N p) 3 (899 * p) (by omega) (by decide) (by omega) ⟨vp_in_nI (by omega) (by decide), ?_⟩))
  rw [nI_clamp (by omega), tf]
  refine gx_wb (gv_ty mb N (gv_od mb N p)) 2 (899 * p + 3) (by omega) (by decide) (by omega) ?_
  show wpX_writeBits _ _ (nI q - 1) 6
  rw [gv_m1 hq1]
  refine gx_wb (q - 1) 6 (899 * p + 3 + 2) (by omega) (by decide) (by omega) ⟨5, gx_cf44 (p := p) (G := G) hq1 hq2 hr hm hN hp hT hi hG hP (fun S vct bwd prd res cof lev J' H' => ?_) 4 0 5 rfl (by decide) _ vct bwd prd res cof lev (gv_J_h (fun j hj => ?_) HJ) (gv_HD_new (by omega) hq2 hq1)⟩
  · have K := h S vct bwd prd res cof lev (gv_J_n J' H')
    rw [show gv_bs p 4 = 899 * (p + 1) by unfold gv_bs; omega]
    exact K
  · rw [gv_ws_m (by omega), gv_ws_m (by omega), gv_ws_m (by omega)]
theorem gx_e31 {post : Int32 → SX → Prop} (hq1 : 1 ≤ q) (hq2 : q ≤ 64) (hr : r < 3) (hm : mb < 4) (hN : N < 9) (hT : ∀ k, k < N → typ k = nI (gv_ty mb N k)) (hO : ∀ k, k < N → ord k = nI (gv_od mb N k)) (hi : gv_P inp)
    (hG : ∀ p b, b < 4 → gv_blk inp q r (gv_ty mb N (gv_od mb N p)) (gv_od mb N p) b (gv_pa mb N (gv_od mb N p)) (gv_na mb N (gv_od mb N p)) (G (4 * p + b)) = G (4 * p + b + 1)) (hP : ∀ k, gv_P (G k).1)
    (h : ∀ S vct bwd prd res cof lev : gv_F, gv_J q mb N S (G (4 * N)).1 N 0 → post (nI N) (nI q, nI r, bf, 1, nI N, 0, 0, nI (899 * N), 0, 0, 0, inp, (G (4 * N)).1, dcd, typ, ord, (G (4 * N)).2.1, (G (4 * N)).2.2.1, (G (4 * N)).2.2.2, S, gv_wi isd (fun _ => 0) 8, vct, bwd, prd, res, cof, lev)) :
    ∀ d p n, p + d = N → d < n → ∀ S vct bwd prd res cof lev : gv_F, gv_J q mb N S (G (4 * p)).1 p 0 →
      wX_encode_31 post n (nI p) (nI q) (nI r) bf ph (nI N) dc oc (nI (899 * p)) rp oa na inp ((G (4 * p)).1) dcd typ ord ((G (4 * p)).2.1) ((G (4 * p)).2.2.1) ((G (4 * p)).2.2.2) S isd vct bwd prd res cof lev := by
  intro d
  induction d with
  | zero =>
    intro p n hp hn S vct bwd prd res cof lev HJ
    obtain ⟨n, rfl⟩ : ∃ m, n = m + 1 := ⟨n - 1, by omega⟩
    obtain rfl : p = N := by omega
    exact br_t (nI_le (Nat.le_refl _) (by omega)) (gx_start (h S vct bwd prd res cof lev HJ))
  | succ d ih =>
    intro p n hp hn S vct bwd prd res cof lev HJ
    obtain ⟨n, rfl⟩ : ∃ m, n = m + 1 := ⟨n - 1, by omega⟩
    refine br_f (nI_ge (by omega) (by omega)) ⟨vp_in_nI (by omega) (by decide), ?_⟩
    rw [nI_clamp (by omega), hO p (by omega)]
    exact gx_codeFrame (G := G) hq1 hq2 hr hm hN (by omega) hT hi (hG p) hP HJ (fun S vct bwd prd res cof lev J' => nm_r (nI_1 p) (ih (p + 1) n (by omega) (by omega) S vct bwd prd res cof lev J'))
theorem gx_encode {post : Int32 → SX → Prop} (hq1 : 1 ≤ q) (hq2 : q ≤ 64) (hr : r < 3) (hm : mb < 4) (hN : N < 9) (h1 : 1 ≤ N) (hi : gv_P inp) (hR : gv_P rec)
    (h : ∀ (s : gv_Q) (S vct bwd prd res cof lev : gv_F), s = gv_run inp q r mb N (rec, mod, vcs, nzs) (4 * N) → gv_P s.1 → gv_J q mb N S s.1 N 0 →
      post (nI N) (nI q, nI r, nI mb, 1, nI N, 0, 0, nI (899 * N), 0, 0, 0, inp, s.1, dcd, gv_wi typ (gv_T mb N) N, gv_wi ord (gv_O mb N) N, s.2.1, s.2.2.1, s.2.2.2, S, gv_wi isd (fun _ => 0) 8, vct, bwd, prd, res, cof, lev)) :
    wpX_encode post (nI q, nI r, nI mb, 0, nI N, dc, oc, wp, rp, oa, na, inp, rec, dcd, typ, ord, mod, vcs, nzs, str, isd, vct, bwd, prd, res, cof, lev) := by
  refine br_t rfl (br_f (nI_ne0 (by omega) (by omega)) (gx_types hm hN h1 (gx_order (mb := mb) hN h1 (fun k hk => gv_wi_h hk) ⟨N + 1, gx_e31 (typ := gv_wi typ (gv_T mb N) N) (ord := gv_wi ord (gv_O mb N) N) (G := gv_run inp q r mb N (rec, mod, vcs, nzs)) hq1 hq2 hr hm hN (fun k hk => gv_wi_h hk) (fun k hk => gv_wi_h hk) hi (fun p b hb => gv_run_s hb) (fun k => gv_run_p hR k) (fun S vct bwd prd res cof lev J => h _ S vct bwd prd res cof lev rfl (gv_run_p hR _) J) N 0 (N + 1) (by omega) (by omega) str vct bwd prd res cof lev (gv_J_0 q mb N str rec)⟩)))
end
