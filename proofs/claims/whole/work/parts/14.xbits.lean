/-! X: the bit stream -/
theorem gv_rd_lo {S S' : gv_F} {P p w : Nat} (h : ∀ j, j < P → S j = S' j) (hp : p + w ≤ P) : gv_rd S p w = gv_rd S' p w := gv_rd_c w (fun j _ h2 => h j (by omega))
theorem gv_b1 : vp_nar .boolean 1 = 1 := rfl
theorem gv_b0 : vp_nar .boolean 0 = 0 := rfl
section
variable {qu rg bf ph fc dc oc wp rp oa na : Int32} {inp rec dcd typ ord mod vcs nzs str isd vct bwd prd res cof lev : Nat → Int32}
theorem gx_w4 {post : SX → Prop} {v w p : Nat} (hv : v < 2 ^ 31) (hw : w < 32) (hp : p + w ≤ 7192) (h : post (qu, rg, bf, ph, fc, dc, oc, nI (p + w), rp, oa, na, inp, rec, dcd, typ, ord, mod, vcs, nzs, gv_ws str p v w w, isd, vct, bwd, prd, res, cof, lev)) :
    ∀ d i n, i + d = w → d < n → wX_writeBits_4 post (nI v) qu rg bf ph fc dc oc rp oa na n (nI d - 1) (nI (p + i)) inp rec dcd typ ord mod vcs nzs (gv_ws str p v w i) isd vct bwd prd res cof lev := by
  intro d
  induction d with
  | zero =>
    intro i n hi hn
    obtain ⟨n, rfl⟩ : ∃ m, n = m + 1 := ⟨n - 1, by omega⟩
    obtain rfl : i = w := by omega
    exact br_t (by decide) h
  | succ d ih =>
    intro i n hi hn
    obtain ⟨n, rfl⟩ : ∃ m, n = m + 1 := ⟨n - 1, by omega⟩
    have I := ih (i + 1) n (by omega) (by omega)
    have hb := gv_bit (v := v) (k := d) hv (by omega)
    have e : w - 1 - i = d := by omega
    have hin : vp_in (nI (p + i)) 7192 := vp_in_nI (by omega) (by decide)
    rw [nI_pred]
    refine br_f (nI_pos (by omega)) (br_f (nI_ge (b := 7192) (by omega) (by decide)) (br_c (fun c => ⟨hin, nm_r (e' := gv_ws str p v w (i + 1)) ?_ (nm_r (nI_1 (p + i)) (nm_r (Int32.sub_eq_add_neg _ _).symm I))⟩) (fun c => ⟨hin, nm_r (e' := gv_ws str p v w (i + 1)) ?_ (nm_r (nI_1 (p + i)) (nm_r (Int32.sub_eq_add_neg _ _).symm I))⟩)))
    · rw [hb] at c
      rw [nI_clamp (by omega), gv_b1, ← c, ← e]
      rfl
    · rw [hb] at c
      have z : nI (v / 2 ^ d % 2) = 0 := by
        rcases Nat.mod_two_eq_zero_or_one (v / 2 ^ d) with y | y
        · rw [y]; rfl
        · rw [y] at c; exact absurd rfl c
      rw [nI_clamp (by omega), gv_b0, ← z, ← e]
      rfl
theorem gx_wb {post : SX → Prop} (v w p : Nat) (hv : v < 2 ^ 31) (hw : w < 32) (hp : p + w ≤ 7192) (h : post (qu, rg, bf, ph, fc, dc, oc, nI (p + w), rp, oa, na, inp, rec, dcd, typ, ord, mod, vcs, nzs, gv_ws str p v w w, isd, vct, bwd, prd, res, cof, lev)) : wpX_writeBits post (qu, rg, bf, ph, fc, dc, oc, nI p, rp, oa, na, inp, rec, dcd, typ, ord, mod, vcs, nzs, str, isd, vct, bwd, prd, res, cof, lev) (nI v) (nI w) :=
  nm_e ⟨w + 1, gx_w4 hv hw hp h w 0 (w + 1) (by omega) (by omega)⟩
theorem gx_r4 {post : Int32 → SX → Prop} {w p : Nat} (hw : w < 32) (hp : p + w ≤ 7192) (h : post (nI (gv_rd str p w)) (qu, rg, bf, ph, fc, dc, oc, wp, nI (p + w), oa, na, inp, rec, dcd, typ, ord, mod, vcs, nzs, str, isd, vct, bwd, prd, res, cof, lev)) :
    ∀ d i n, i + d = w → d < n → wX_readBits_4 post (nI w) qu rg bf ph fc dc oc wp oa na inp rec dcd typ ord mod vcs nzs str isd vct bwd prd res cof lev n (nI (gv_rd str p i)) (nI i) (nI (p + i)) := by
  intro d
  induction d with
  | zero =>
    intro i n hi hn
    obtain ⟨n, rfl⟩ : ∃ m, n = m + 1 := ⟨n - 1, by omega⟩
    obtain rfl : i = w := by omega
    exact br_t (nI_le (Nat.le_refl _) (by omega)) h
  | succ d ih =>
    intro i n hi hn
    obtain ⟨n, rfl⟩ : ∃ m, n = m + 1 := ⟨n - 1, by omega⟩
    have I := ih (i + 1) n (by omega) (by omega)
    refine br_f (nI_ge (by omega) (by omega)) (br_f (nI_ge (b := 7192) (by omega) (by decide)) ⟨vp_in_nI (by omega) (by decide), br_c (fun c => nm_r (e' := nI (gv_rd str p (i + 1))) ?_ (nm_r (nI_1 (p + i)) (nm_r (nI_1 i) I))) (fun c => nm_r (e' := nI (gv_rd str p (i + 1))) ?_ (nm_r (nI_1 (p + i)) (nm_r (nI_1 i) I)))⟩)
    · rw [nI_clamp (by omega)] at c
      rw [show (2 : Int32) = nI 2 from rfl, pk_mul, Int32.add_zero]
      show _ = nI (gv_rd str p i * 2 + (if str (p + i) = 0 then 0 else 1))
      rw [if_pos c]
      rfl
    · rw [nI_clamp (by omega)] at c
      rw [show (2 : Int32) = nI 2 from rfl, pk_mul, nI_1]
      show _ = nI (gv_rd str p i * 2 + (if str (p + i) = 0 then 0 else 1))
      rw [if_neg c]
theorem gx_rb {post : Int32 → SX → Prop} (w p : Nat) (hw : w < 32) (hp : p + w ≤ 7192) (h : post (nI (gv_rd str p w)) (qu, rg, bf, ph, fc, dc, oc, wp, nI (p + w), oa, na, inp, rec, dcd, typ, ord, mod, vcs, nzs, str, isd, vct, bwd, prd, res, cof, lev)) : wpX_readBits post (qu, rg, bf, ph, fc, dc, oc, wp, nI p, oa, na, inp, rec, dcd, typ, ord, mod, vcs, nzs, str, isd, vct, bwd, prd, res, cof, lev) (nI w) :=
  ⟨w + 1, gx_r4 hw hp h w 0 (w + 1) (by omega) (by omega)⟩
theorem gx_wl34 {post : SX → Prop} {B m : Nat} {V L s0 : gv_F} (hB : B + 222 ≤ 7192) (hL : ∀ k, k < 16 → lev k = L k) (hLb : ∀ k, k < 16 → -4080 ≤ (L k).toInt ∧ (L k).toInt ≤ 4080)
    (h : ∀ S : gv_F, (∀ j, j < B → S j = s0 j) → gv_sq S B = m → (∀ c, c < 4 → gv_sv S B c = V c) → (∀ k, k < 16 → gv_sl S B k = L k) → post (qu, rg, bf, ph, fc, dc, oc, nI (B + 222), rp, oa, na, inp, rec, dcd, typ, ord, mod, vcs, nzs, S, isd, vct, bwd, prd, res, cof, lev)) :
    ∀ d i n, i + d = 16 → d < n → ∀ S : gv_F, (∀ j, j < B → S j = s0 j) → gv_sq S B = m → (∀ c, c < 4 → gv_sv S B c = V c) → (∀ k, k < i → gv_sl S B k = L k) → wX_writeBlock_34 post n (nI i) qu rg bf ph fc dc oc (nI (B + 14 + 13 * i)) rp oa na inp rec dcd typ ord mod vcs nzs S isd vct bwd prd res cof lev := by
  intro d
  induction d with
  | zero =>
    intro i n hi hn S h1 h2 h3 h4
    obtain ⟨n, rfl⟩ : ∃ m, n = m + 1 := ⟨n - 1, by omega⟩
    obtain rfl : i = 16 := by omega
    exact br_t (by decide) (h S h1 h2 h3 h4)
  | succ d ih =>
    intro i n hi hn S h1 h2 h3 h4
    obtain ⟨n, rfl⟩ : ∃ m, n = m + 1 := ⟨n - 1, by omega⟩
    have hb := hLb i (by omega)
    obtain ⟨e1, e2, e3⟩ := gv_lw_e (x := L i) (by omega) (by omega)
    refine br_f (nI_ge (b := 16) (by omega) (by decide)) ⟨vp_in_nI (by omega) (by decide), ?_⟩
    rw [nI_clamp (by omega), hL i (by omega), e1]
    refine gx_wb (gv_lw (L i)) 13 (B + 14 + 13 * i) (by omega) (by decide) (by omega) (nm_r (nI_1 i) ?_)
    have I := ih (i + 1) n (by omega) (by omega) (gv_ws S (B + 14 + 13 * i) (gv_lw (L i)) 13 13)
      (fun j hj => by rw [gv_ws_m (by omega)]; exact h1 j hj)
      (by rw [← h2]; exact gv_rd_lo (P := B + 14) (fun j hj => gv_ws_m (by omega)) (by omega))
      (fun c hc => by rw [← h3 c hc]; unfold gv_sv; rw [gv_rd_lo (S' := S) (P := B + 14) (fun j hj => gv_ws_m (by omega)) (by omega)])
      (fun k hk => by
        by_cases z : k = i
        · subst z
          unfold gv_sl
          rw [gv_rd_ws (by omega)]
          exact e3
        · rw [← h4 k (by omega)]
          unfold gv_sl
          rw [gv_rd_lo (S' := S) (P := B + 14 + 13 * i) (fun j hj => gv_ws_m (by omega)) (by omega)])
    rw [show B + 14 + 13 * (i + 1) = B + 14 + 13 * i + 13 by omega] at I
    exact I
theorem gx_wl8 {post : SX → Prop} {B m : Nat} {V L s0 : gv_F} (hB : B + 222 ≤ 7192) (hV : ∀ c, c < 4 → vct c = V c) (hVb : ∀ c, c < 4 → -2 ≤ (V c).toInt ∧ (V c).toInt ≤ 2) (hL : ∀ k, k < 16 → lev k = L k) (hLb : ∀ k, k < 16 → -4080 ≤ (L k).toInt ∧ (L k).toInt ≤ 4080)
    (h : ∀ S : gv_F, (∀ j, j < B → S j = s0 j) → gv_sq S B = m → (∀ c, c < 4 → gv_sv S B c = V c) → (∀ k, k < 16 → gv_sl S B k = L k) → post (qu, rg, bf, ph, fc, dc, oc, nI (B + 222), rp, oa, na, inp, rec, dcd, typ, ord, mod, vcs, nzs, S, isd, vct, bwd, prd, res, cof, lev)) :
    ∀ d i n, i + d = 4 → d < n → ∀ S : gv_F, (∀ j, j < B → S j = s0 j) → gv_sq S B = m → (∀ c, c < i → gv_sv S B c = V c) → wX_writeBlock_8 post n (nI i) qu rg bf ph fc dc oc (nI (B + 2 + 3 * i)) rp oa na inp rec dcd typ ord mod vcs nzs S isd vct bwd prd res cof lev := by
  intro d
  induction d with
  | zero =>
    intro i n hi hn S h1 h2 h3
    obtain ⟨n, rfl⟩ : ∃ m, n = m + 1 := ⟨n - 1, by omega⟩
    obtain rfl : i = 4 := by omega
    exact br_t (by decide) ⟨17, gx_wl34 hB hL hLb h 16 0 17 rfl (by decide) S h1 h2 h3 (fun k hk => by omega)⟩
  | succ d ih =>
    intro i n hi hn S h1 h2 h3
    obtain ⟨n, rfl⟩ : ∃ m, n = m + 1 := ⟨n - 1, by omega⟩
    have hb := hVb i (by omega)
    obtain ⟨e1, e2, e3⟩ := gv_vw_e (x := V i) (by omega) (by omega)
    refine br_f (nI_ge (b := 4) (by omega) (by decide)) ⟨vp_in_nI (by omega) (by decide), ?_⟩
    rw [nI_clamp (by omega), hV i (by omega), e1]
    refine gx_wb (gv_vw (V i)) 3 (B + 2 + 3 * i) (by omega) (by decide) (by omega) (nm_r (nI_1 i) ?_)
    have I := ih (i + 1) n (by omega) (by omega) (gv_ws S (B + 2 + 3 * i) (gv_vw (V i)) 3 3)
      (fun j hj => by rw [gv_ws_m (by omega)]; exact h1 j hj)
      (by rw [← h2]; exact gv_rd_lo (P := B + 2) (fun j hj => gv_ws_m (by omega)) (by omega))
      (fun k hk => by
        by_cases z : k = i
        · subst z
          unfold gv_sv
          rw [gv_rd_ws (by omega)]
          exact e3
        · rw [← h3 k (by omega)]
          unfold gv_sv
          rw [gv_rd_lo (S' := S) (P := B + 2 + 3 * i) (fun j hj => gv_ws_m (by omega)) (by omega)])
    rw [show B + 2 + 3 * (i + 1) = B + 2 + 3 * i + 3 by omega] at I
    exact I
theorem gx_wblock {post : SX → Prop} {B m : Nat} {V L : gv_F} (hm : m < 4) (hB : B + 222 ≤ 7192) (hV : ∀ c, c < 4 → vct c = V c) (hVb : ∀ c, c < 4 → -2 ≤ (V c).toInt ∧ (V c).toInt ≤ 2) (hL : ∀ k, k < 16 → lev k = L k) (hLb : ∀ k, k < 16 → -4080 ≤ (L k).toInt ∧ (L k).toInt ≤ 4080)
    (h : ∀ S : gv_F, (∀ j, j < B → S j = str j) → gv_sq S B = m → (∀ c, c < 4 → gv_sv S B c = V c) → (∀ k, k < 16 → gv_sl S B k = L k) → post (qu, rg, bf, ph, fc, dc, oc, nI (B + 222), rp, oa, na, inp, rec, dcd, typ, ord, mod, vcs, nzs, S, isd, vct, bwd, prd, res, cof, lev)) :
    wpX_writeBlock post (qu, rg, bf, ph, fc, dc, oc, nI B, rp, oa, na, inp, rec, dcd, typ, ord, mod, vcs, nzs, str, isd, vct, bwd, prd, res, cof, lev) (nI m) :=
  gx_wb m 2 B (by omega) (by decide) (by omega) ⟨5, gx_wl8 hB hV hVb hL hLb h 4 0 5 rfl (by decide) _ (fun j hj => gv_ws_m (by omega)) (gv_rd_ws (by omega)) (fun c hc => by omega)⟩
theorem gx_rl34 {post : Int32 → SX → Prop} {B : Nat} {x1 : Int32} (hB : B + 222 ≤ 7192) (h : post x1 (qu, rg, bf, ph, fc, dc, oc, wp, nI (B + 222), oa, na, inp, rec, dcd, typ, ord, mod, vcs, nzs, str, isd, vct, bwd, prd, res, cof, gv_wi lev (gv_sl str B) 16)) :
    ∀ d i n, i + d = 16 → d < n → wX_readBlock_34 post x1 n (nI i) qu rg bf ph fc dc oc wp (nI (B + 14 + 13 * i)) oa na inp rec dcd typ ord mod vcs nzs str isd vct bwd prd res cof (gv_wi lev (gv_sl str B) i) := by
  intro d
  induction d with
  | zero =>
    intro i n hi hn
    obtain ⟨n, rfl⟩ : ∃ m, n = m + 1 := ⟨n - 1, by omega⟩
    obtain rfl : i = 16 := by omega
    exact br_t (by decide) h
  | succ d ih =>
    intro i n hi hn
    obtain ⟨n, rfl⟩ : ∃ m, n = m + 1 := ⟨n - 1, by omega⟩
    have I := ih (i + 1) n (by omega) (by omega)
    rw [show B + 14 + 13 * (i + 1) = B + 14 + 13 * i + 13 by omega] at I
    refine br_f (nI_ge (b := 16) (by omega) (by decide)) (gx_rb 13 (B + 14 + 13 * i) (by decide) (by omega) ⟨vp_in_nI (by omega) (by decide), nm_r (e' := gv_wi lev (gv_sl str B) (i + 1)) ?_ (nm_r (nI_1 i) I)⟩)
    rw [nI_clamp (by omega)]
    rfl
theorem gx_rl8 {post : Int32 → SX → Prop} {B : Nat} {x1 : Int32} (hB : B + 222 ≤ 7192) (h : post x1 (qu, rg, bf, ph, fc, dc, oc, wp, nI (B + 222), oa, na, inp, rec, dcd, typ, ord, mod, vcs, nzs, str, isd, gv_wi vct (gv_sv str B) 4, bwd, prd, res, cof, gv_wi lev (gv_sl str B) 16)) :
    ∀ d i n, i + d = 4 → d < n → wX_readBlock_8 post x1 n (nI i) qu rg bf ph fc dc oc wp (nI (B + 2 + 3 * i)) oa na inp rec dcd typ ord mod vcs nzs str isd (gv_wi vct (gv_sv str B) i) bwd prd res cof lev := by
  intro d
  induction d with
  | zero =>
    intro i n hi hn
    obtain ⟨n, rfl⟩ : ∃ m, n = m + 1 := ⟨n - 1, by omega⟩
    obtain rfl : i = 4 := by omega
    exact br_t (by decide) ⟨17, gx_rl34 hB h 16 0 17 rfl (by decide)⟩
  | succ d ih =>
    intro i n hi hn
    obtain ⟨n, rfl⟩ : ∃ m, n = m + 1 := ⟨n - 1, by omega⟩
    have I := ih (i + 1) n (by omega) (by omega)
    rw [show B + 2 + 3 * (i + 1) = B + 2 + 3 * i + 3 by omega] at I
    refine br_f (nI_ge (b := 4) (by omega) (by decide)) (gx_rb 3 (B + 2 + 3 * i) (by decide) (by omega) ⟨vp_in_nI (by omega) (by decide), nm_r (e' := gv_wi vct (gv_sv str B) (i + 1)) ?_ (nm_r (nI_1 i) I)⟩)
    rw [nI_clamp (by omega)]
    rfl
theorem gx_rblock {post : Int32 → SX → Prop} {B : Nat} (hB : B + 222 ≤ 7192) (h : ∀ V L : gv_F, (∀ c, c < 4 → V c = gv_sv str B c) → (∀ k, k < 16 → L k = gv_sl str B k) → post (nI (gv_sq str B)) (qu, rg, bf, ph, fc, dc, oc, wp, nI (B + 222), oa, na, inp, rec, dcd, typ, ord, mod, vcs, nzs, str, isd, V, bwd, prd, res, cof, L)) : wpX_readBlock post (qu, rg, bf, ph, fc, dc, oc, wp, nI B, oa, na, inp, rec, dcd, typ, ord, mod, vcs, nzs, str, isd, vct, bwd, prd, res, cof, lev) :=
  gx_rb 2 B (by decide) (by omega) ⟨5, gx_rl8 hB (h _ _ (fun c hc => gv_wi_h hc) (fun k hk => gv_wi_h hk)) 4 0 5 rfl (by decide)⟩
end
