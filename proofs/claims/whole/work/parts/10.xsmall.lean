/-! X: the small methods -/
theorem gx_clamp {post : Int32 → Prop} {v lo hi : Int32} (h : post (gv_cp v lo hi)) : wpX_clamp post v lo hi := by
  refine br_c (fun a => br_c (fun b => ?_) (fun b => ?_)) (fun a => ?_)
  · rw [gv_cmi (Int32.not_lt.mpr a) (Int32.not_lt.mpr b)] at h; exact h
  · rw [gv_chi (Int32.not_lt.mpr a) (Int32.not_le.mp b)] at h; exact h
  · rw [gv_clo (Int32.not_le.mp a)] at h; exact h
theorem gx_abs {post : Int32 → Prop} {v : Int32} (h : post (gv_ab v)) : wpX_absolute post v := by
  unfold gv_ab at h
  refine br_c (fun a => ?_) (fun a => ?_)
  · rw [if_neg (Int32.not_lt.mpr a)] at h; exact h
  · rw [if_pos (Int32.not_le.mp a)] at h; exact h
theorem gx_below {post : Int32 → Prop} {v : Int32} {c : Nat} (hc : c < 2 ^ 31) (h1 : ∀ j, j < c → v = nI j → post 1) (h0 : (v < 0 ∨ nI c ≤ v) → post 0) : wpX_isBelow post v (nI c) := by
  refine br_c (fun a => h0 (Or.inl a)) (fun a => br_c (fun b => h0 (Or.inr b)) (fun b => ?_))
  rcases pk_ix v hc with z | z | ⟨j, hj, e⟩
  · exact absurd z a
  · exact absurd z b
  · exact h1 j hj e
theorem gx_sgn : ∀ r, r < 4 → ∀ c, c < 4 → (1 : Int32) - (2 * (((42688 : Int32) >>> (((nI r * 4) + nI c) &&& 31)) &&& 1)) = gv_h r c := by decide +kernel
theorem gx_sign {post : Int32 → Prop} {r c : Nat} (hr : r < 4) (hc : c < 4) (h : post (gv_h r c)) : wpX_signOfH post (nI r) (nI c) := by
  intro y ey
  rw [ey, gx_sgn r hr c hc]
  exact h
theorem gx_plc : ∀ b, b < 4 → ∀ t, t < 16 → ((((nI b / 2) * 4) + (nI t / 4)) * 8) + (((nI b - nI b / 2 * 2) * 4) + (nI t - nI t / 4 * 4)) = nI (gv_id b t) := by decide +kernel
theorem gx_place {post : Int32 → Prop} {f b t : Nat} (hb : b < 4) (ht : t < 16) (h : post (nI (f * 64 + gv_id b t))) : wpX_placeInFrames post (nI f) (nI b) (nI t) := by
  refine ⟨by decide, by decide, nm_e ⟨by decide, by decide, nm_e ?_⟩⟩
  rw [Int32.add_assoc, gx_plc b hb t ht, show (64 : Int32) = nI 64 from rfl, pk_mul, nI_add]
  exact h
theorem gv_pin {f b t : Nat} (hf : f < 8) (hb : b < 4) (ht : t < 16) : f * 64 + gv_id b t < 512 := by
  have := gv_id_lt b hb t ht
  omega
theorem gx_ld {f y x : Nat} : ((nI f * 64) + (nI y * 8)) + nI x = nI (f * 64 + y * 8 + x) := by
  rw [show (64 : Int32) = nI 64 from rfl, show (8 : Int32) = nI 8 from rfl, pk_mul, pk_mul, nI_add, nI_add]
theorem gx_4 {i j : Nat} : (nI i * 4) + nI j = nI (i * 4 + j) := by
  rw [show (4 : Int32) = nI 4 from rfl, pk_mul, nI_add]
theorem gx_lft : ∀ b, b < 4 → (nI b - nI b / 2 * 2) * 4 = nI (4 * (b % 2)) ∧ (nI b / 2) * 4 = nI (4 * (b / 2)) := by decide +kernel
section
variable {qu rg bf ph fc dc oc wp rp oa na : Int32} {inp rec dcd typ ord mod vcs nzs str isd vct bwd prd res cof lev : Nat → Int32}
theorem gx_can {post : Int32 → Prop} {n : Nat} (hn : n < 2 ^ 31) (h1 : ph = 0 → n < 8 → post 1) (h0 : (ph ≠ 0 ∨ 8 ≤ n) → post 0) : wpX_canAppend post (qu, rg, bf, ph, nI n, dc, oc, wp, rp, oa, na, inp, rec, dcd, typ, ord, mod, vcs, nzs, str, isd, vct, bwd, prd, res, cof, lev) := by
  refine br_c (fun a => ?_) (fun a => h0 (Or.inl a))
  exact pk_le 8 n (fun b => h0 (Or.inr b)) (fun b => h1 a b)
theorem gx_cost_l {post : Int32 → Prop} {f b : Nat} {P : gv_F} (hf : f < 8) (hb : b < 4) (hP : ∀ t, t < 16 → prd t = P t) (h : post (gv_ct inp f b P)) :
    ∀ d i n, i + d = 16 → d < n → wX_costOfPrediction_5 post (nI f) (nI b) qu rg bf ph fc dc oc wp rp oa na inp rec dcd typ ord mod vcs nzs str isd vct bwd prd res cof lev n (gv_sm (fun t => gv_ab (inp (f * 64 + gv_id b t) - P t)) i) (nI i) := by
  intro d
  induction d with
  | zero =>
    intro i n hi hn
    obtain ⟨n, rfl⟩ : ∃ m, n = m + 1 := ⟨n - 1, by omega⟩
    obtain rfl : i = 16 := by omega
    exact br_t (by decide) h
  | succ d ih =>
    intro i n hi hn
    obtain ⟨n, rfl⟩ : ∃ m, n = m + 1 := ⟨n - 1, by omega⟩
    refine br_f (nI_ge (b := 16) (by omega) (by decide)) (gx_place hb (by omega) ⟨vp_in_nI (gv_pin hf hb (by omega)) (by decide), vp_in_nI (by omega) (by decide), gx_abs ?_⟩)
    have hpin := gv_pin hf hb (t := i) (by omega)
    rw [nI_clamp (by omega), nI_clamp (by omega), hP i (by omega)]
    refine nm_r (gv_sm_s _ i) (nm_r (nI_1 i) ?_)
    exact ih (i + 1) n (by omega) (by omega)
theorem gx_cost {post : Int32 → Prop} {f b : Nat} {P : gv_F} (hf : f < 8) (hb : b < 4) (hP : ∀ t, t < 16 → prd t = P t) (h : post (gv_ct inp f b P)) : wpX_costOfPrediction post (qu, rg, bf, ph, fc, dc, oc, wp, rp, oa, na, inp, rec, dcd, typ, ord, mod, vcs, nzs, str, isd, vct, bwd, prd, res, cof, lev) (nI f) (nI b) :=
  ⟨17, gx_cost_l hf hb hP h 16 0 17 rfl (by decide)⟩
end
