/-! X: decodeFrame, decodeNext -/
section
variable {qu rg bf ph fc dc oc wp rp oa na : Int32} {inp rec dcd typ ord mod vcs nzs str isd vct bwd prd res cof lev : Nat → Int32}
variable {q mb N e : Nat}
theorem gx_df42 {post : Int32 → SX → Prop} {past : Nat} (hm : mb < 4) (hN : N < 9) (he : e < N) (hpast : past = if gv_ty mb N (gv_od mb N e) = 2 then gv_ol mb N e else gv_nw mb N e)
    (hC : ∀ b, b < 4 → gv_CB q mb N str rec e b)
    (h : ∀ D vct bwd prd res cof lev : gv_F, gv_D mb N rec D e 4 → post (nI (gv_od mb N e)) (qu, rg, bf, ph, fc, dc, oc, wp, nI (gv_bs e 4), nI (gv_ol mb N (e + 1)), nI (gv_nw mb N (e + 1)), inp, rec, D, typ, ord, mod, vcs, nzs, str, upd isd (gv_od mb N e) 1, vct, bwd, prd, res, cof, lev)) :
    ∀ d b n, b + d = 4 → d < n → ∀ D vct bwd prd res cof lev : gv_F, gv_D mb N rec D e b →
      wX_decodeFrame_42 post (nI (gv_od mb N e)) (nI (gv_ty mb N (gv_od mb N e))) (nI q) (nI past) n (nI b) qu rg bf ph fc dc oc wp (nI (gv_bs e b)) (nI (gv_ol mb N e)) (nI (gv_nw mb N e)) inp rec D typ ord mod vcs nzs str isd vct bwd prd res cof lev := by
  have hfN := gv_od_lt mb hm N hN e he
  have hal := gv_an_lt mb hm N hN e (by omega)
  have hp8 : past < 8 := by rw [hpast]; split <;> omega
  intro d
  induction d with
  | zero =>
    intro b n hb hn D vct bwd prd res cof lev HD
    obtain ⟨n, rfl⟩ : ∃ m, n = m + 1 := ⟨n - 1, by omega⟩
    obtain rfl : b = 4 := by omega
    have K := h D vct bwd prd res cof lev HD
    rw [show gv_ol mb N (e + 1) = if gv_ty mb N (gv_od mb N e) = 2 then gv_ol mb N e else gv_nw mb N e from rfl, show gv_nw mb N (e + 1) = if gv_ty mb N (gv_od mb N e) = 2 then gv_nw mb N e else gv_od mb N e from rfl] at K
    have hu : upd isd (nI (gv_od mb N e)).toNatClampNeg (vp_nar .boolean 1) = upd isd (gv_od mb N e) 1 := by rw [nI_clamp (by omega), gv_b1]
    refine br_t (by decide) (br_c (fun c => ⟨vp_in_nI (by omega) (by decide), nm_r hu ?_⟩) (fun c => ⟨vp_in_nI (by omega) (by decide), nm_r hu ?_⟩))
    · rw [gv_ty2] at c
      rw [if_pos c, if_pos c] at K
      exact K
    · rw [gv_ty2] at c
      rw [if_neg c, if_neg c] at K
      exact K
  | succ d ih =>
    intro b n hb hn D vct bwd prd res cof lev HD
    obtain ⟨n, rfl⟩ : ∃ m, n = m + 1 := ⟨n - 1, by omega⟩
    have hb4 : b < 4 := by omega
    have hBs : gv_bs e b + 222 ≤ 7192 := by unfold gv_bs; omega
    have hw : gv_bs e (b + 1) = gv_bs e b + 222 := by unfold gv_bs; omega
    have I := ih (b + 1) n (by omega) (by omega)
    rw [hw] at I
    refine br_f (nI_ge (b := 4) (by omega) (by decide)) (gx_rblock hBs (fun V L hV hL => gx_pred_decoded hb4 (gv_sq_4 _ _) hp8 (by omega) (fun P Q hP => gx_rebuild_decoded (P := gv_pr D b (gv_sq str (gv_bs e b)) (gv_sv str (gv_bs e b)) past (gv_nw mb N e)) (L := gv_sl str (gv_bs e b)) (by omega) hb4 (fun t ht => ?_) hL (fun A B => nm_r (nI_1 b) (I _ V Q P A B L (gv_D_s hm hN he hb4 (hC b hb4) hpast rfl HD))))))
    rw [hP t ht]
    exact gv_pr_c hV (fun _ _ => ⟨rfl, fun _ _ => rfl⟩) (fun _ _ => ⟨rfl, fun _ _ => rfl⟩) t
theorem gx_decodeFrame {post : Int32 → SX → Prop} (hq1 : 1 ≤ q) (hm : mb < 4) (hN : N < 9) (he : e < N) (hJ : gv_J q mb N str rec N 0) (HD : gv_D mb N rec dcd e 0)
    (h : ∀ D vct bwd prd res cof lev : gv_F, gv_D mb N rec D (e + 1) 0 → post (nI (gv_od mb N e)) (qu, rg, bf, ph, fc, dc, oc, wp, nI (899 * (e + 1)), nI (gv_ol mb N (e + 1)), nI (gv_nw mb N (e + 1)), inp, rec, D, typ, ord, mod, vcs, nzs, str, upd isd (gv_od mb N e) 1, vct, bwd, prd, res, cof, lev)) :
    wpX_decodeFrame post (qu, rg, bf, ph, fc, dc, oc, wp, nI (899 * e), nI (gv_ol mb N e), nI (gv_nw mb N e), inp, rec, dcd, typ, ord, mod, vcs, nzs, str, isd, vct, bwd, prd, res, cof, lev) := by
  obtain ⟨H1, H2⟩ := hJ
  obtain ⟨a1, a2, a3⟩ := H1 e he
  refine gx_rb 3 (899 * e) (by decide) (by omega) (gx_rb 2 (899 * e + 3) (by decide) (by omega) (gx_rb 6 (899 * e + 3 + 2) (by decide) (by omega) (nm_r (e' := nI q) ?_ ?_)))
  · rw [show 899 * e + 3 + 2 = 899 * e + 5 from rfl, a3, nI_1, show q - 1 + 1 = q by omega]
  · rw [a1, a2]
    have K : ∀ past, past = (if gv_ty mb N (gv_od mb N e) = 2 then gv_ol mb N e else gv_nw mb N e) → ∃ n42 : Nat, wX_decodeFrame_42 post (nI (gv_od mb N e)) (nI (gv_ty mb N (gv_od mb N e))) (nI q) (nI past) n42 0 qu rg bf ph fc dc oc wp (nI (899 * e + 3 + 2 + 6)) (nI (gv_ol mb N e)) (nI (gv_nw mb N e)) inp rec dcd typ ord mod vcs nzs str isd vct bwd prd res cof lev := by
      intro past hpast
      refine ⟨5, gx_df42 hm hN he hpast (fun b hb => H2 e b hb (Or.inl he)) (fun D vct bwd prd res cof lev HD' => ?_) 4 0 5 rfl (by decide) dcd vct bwd prd res cof lev HD⟩
      rw [show gv_bs e 4 = 899 * (e + 1) by unfold gv_bs; omega]
      exact h D vct bwd prd res cof lev (gv_D_n HD')
    refine br_c (fun c => ?_) (fun c => ?_)
    · exact K _ (if_pos (gv_ty2.mp c)).symm
    · exact K _ (if_neg (fun z => c (gv_ty2.mpr z))).symm
theorem gx_decodeNext {post : Int32 → SX → Prop} {o : Nat} (hq1 : 1 ≤ q) (hm : mb < 4) (hN : N < 9) (he : e < N) (hJ : gv_J q mb N str rec N 0) (HD : gv_D mb N rec dcd e 0) (HO : gv_OC mb N e o) (HI : ∀ k, k < 8 → (isd k = 0 ↔ gv_in mb N e k = false))
    (h : ∀ (o' : Nat) (D I vct bwd prd res cof lev : gv_F), gv_D mb N rec D (e + 1) 0 → gv_OC mb N (e + 1) o' → (∀ k, k < 8 → (I k = 0 ↔ gv_in mb N (e + 1) k = false)) →
      post (nI (gv_od mb N e)) (qu, rg, bf, 1, nI N, nI (e + 1), nI o', wp, nI (899 * (e + 1)), nI (gv_ol mb N (e + 1)), nI (gv_nw mb N (e + 1)), inp, rec, D, typ, ord, mod, vcs, nzs, str, I, vct, bwd, prd, res, cof, lev)) :
    wpX_decodeNext post (qu, rg, bf, 1, nI N, nI e, nI o, wp, nI (899 * e), nI (gv_ol mb N e), nI (gv_nw mb N e), inp, rec, dcd, typ, ord, mod, vcs, nzs, str, isd, vct, bwd, prd, res, cof, lev) := by
  have hI : ∀ k, k < 8 → (upd isd (gv_od mb N e) 1 k = 0 ↔ gv_in mb N (e + 1) k = false) := by
    intro k hk
    rw [gv_in_s]
    by_cases z : k = gv_od mb N e
    · subst z
      rw [pk_us]
      simp
    · rw [pk_un z, HI k hk]
      have : (gv_od mb N e == k) = false := by simp; omega
      rw [this, Bool.or_false]
  refine br_t rfl (br_f (fun z => by rw [nI_eq (by omega) (by omega)] at z; omega) (gx_decodeFrame hq1 hm hN he hJ HD (fun D vct bwd prd res cof lev HD' => nm_r (nI_1 e) (gx_release (Dn := gv_in mb N (e + 1)) hN HO.1 hI (fun k hk => ?_) (fun o' h1 h2 h3 => h o' D _ vct bwd prd res cof lev HD' ⟨h1, h2, h3⟩ hI)))))
  rw [gv_in_s, HO.2.1 k hk]
  rfl
end
