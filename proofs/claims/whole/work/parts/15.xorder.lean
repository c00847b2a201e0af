/-! X: types, order, anchors, startDecoder, release -/
theorem gv_m1 {n : Nat} (h : 1 ≤ n) : nI n - 1 = nI (n - 1) := by rw [show (1 : Int32) = nI 1 from rfl, pk_sub h]
theorem gv_rem {i mb : Nat} (hi : i < 8) (hm : mb < 4) : nI i - nI i / (nI mb + 1) * (nI mb + 1) = nI (i % (mb + 1)) := by rw [nI_1]; exact pk_rem (by omega) (by omega) (by omega)
theorem gv_ty_a {mb n k : Nat} (h0 : k ≠ 0) (h : k % (mb + 1) = 0 ∨ k = n - 1) : gv_ty mb n k = 1 := by unfold gv_ty; rw [if_neg h0, if_pos h]
theorem gv_ty_b {mb n k : Nat} (h0 : k ≠ 0) (h : ¬ (k % (mb + 1) = 0 ∨ k = n - 1)) : gv_ty mb n k = 2 := by unfold gv_ty; rw [if_neg h0, if_neg h]
theorem gv_ty2 {mb n k : Nat} : nI (gv_ty mb n k) = 2 ↔ gv_ty mb n k = 2 := by
  have := gv_ty_3 mb n k
  exact nI_eq (b := 2) (by omega) (by decide)
theorem gv_ty1 {mb n k : Nat} : nI (gv_ty mb n k) = 1 ↔ gv_ty mb n k = 1 := by
  have := gv_ty_3 mb n k
  exact nI_eq (b := 1) (by omega) (by decide)
theorem gv_ty0 {mb n k : Nat} : nI (gv_ty mb n k) = 0 ↔ gv_ty mb n k = 0 := by
  have := gv_ty_3 mb n k
  exact nI_eq (b := 0) (by omega) (by decide)
def gv_T (mb n : Nat) : gv_F := fun k => nI (gv_ty mb n k)
def gv_O (mb n : Nat) : gv_F := fun k => nI (gv_od mb n k)
section
variable {qu rg bf ph fc dc oc wp rp oa na : Int32} {inp rec dcd typ ord mod vcs nzs str isd vct bwd prd res cof lev : Nat → Int32}
variable {mb N : Nat}
theorem gx_ty9 {post : SX → Prop} (hm : mb < 4) (hN : N < 9) (h : post (qu, rg, nI mb, ph, nI N, dc, oc, wp, rp, oa, na, inp, rec, dcd, gv_wi typ (gv_T mb N) N, ord, mod, vcs, nzs, str, isd, vct, bwd, prd, res, cof, lev)) :
    ∀ d i n, i + d = N → d < n → 1 ≤ i → wX_fixTypes_9 post qu rg (nI mb) ph (nI N) dc oc wp rp oa na n (nI i) inp rec dcd (gv_wi typ (gv_T mb N) i) ord mod vcs nzs str isd vct bwd prd res cof lev := by
  intro d
  induction d with
  | zero =>
    intro i n hi hn h1
    obtain ⟨n, rfl⟩ : ∃ m, n = m + 1 := ⟨n - 1, by omega⟩
    obtain rfl : i = N := by omega
    exact br_t (nI_le (Nat.le_refl _) (by omega)) h
  | succ d ih =>
    intro i n hi hn h1
    obtain ⟨n, rfl⟩ : ∃ m, n = m + 1 := ⟨n - 1, by omega⟩
    have I := ih (i + 1) n (by omega) (by omega) (by omega)
    have er := gv_rem (i := i) (mb := mb) (by omega) hm
    have hv : vp_in (nI i) 8 := vp_in_nI (by omega) (by decide)
    have e2 : nI N - 1 = nI (N - 1) := gv_m1 (by omega)
    have P1 : (i % (mb + 1) = 0 ∨ i = N - 1) → wX_fixTypes_43 post (wX_fixTypes_9 post qu rg (nI mb) ph (nI N) dc oc wp rp oa na n) (nI i) 1 qu rg (nI mb) ph (nI N) dc oc wp rp oa na inp rec dcd (gv_wi typ (gv_T mb N) i) ord mod vcs nzs str isd vct bwd prd res cof lev := by
      intro c
      refine br_f (by decide) ⟨hv, nm_r (e' := gv_wi typ (gv_T mb N) (i + 1)) ?_ (nm_r (nI_1 i) I)⟩
      rw [nI_clamp (by omega)]
      show _ = upd _ i (nI (gv_ty mb N i))
      rw [gv_ty_a (by omega) c]
      rfl
    refine br_f (nI_ge (by omega) (by omega)) ⟨by rw [nI_1]; exact nI_ne0 (by omega) (by omega), ?_⟩
    by_cases c1 : i % (mb + 1) = 0
    · refine br_t (by rw [er, c1]; rfl) ?_
      exact P1 (Or.inl c1)
    · refine br_f (by rw [er]; exact nI_ne0 (by omega) (Nat.lt_of_le_of_lt (Nat.mod_le _ _) (by omega))) ?_
      by_cases c2 : i = N - 1
      · refine br_t (by rw [e2, c2]) ?_
        exact P1 (Or.inr c2)
      · refine br_f (by rw [e2, nI_eq (by omega) (by omega)]; exact c2) (br_t rfl ⟨hv, nm_r (e' := gv_wi typ (gv_T mb N) (i + 1)) ?_ (nm_r (nI_1 i) I)⟩)
        rw [nI_clamp (by omega)]
        show _ = upd _ i (nI (gv_ty mb N i))
        rw [gv_ty_b (by omega) (by omega)]
        rfl
theorem gx_types {post : SX → Prop} (hm : mb < 4) (hN : N < 9) (h1 : 1 ≤ N) (h : post (qu, rg, nI mb, ph, nI N, dc, oc, wp, rp, oa, na, inp, rec, dcd, gv_wi typ (gv_T mb N) N, ord, mod, vcs, nzs, str, isd, vct, bwd, prd, res, cof, lev)) : wpX_fixTypes post (qu, rg, nI mb, ph, nI N, dc, oc, wp, rp, oa, na, inp, rec, dcd, typ, ord, mod, vcs, nzs, str, isd, vct, bwd, prd, res, cof, lev) :=
  nm_r (e' := gv_wi typ (gv_T mb N) 1) rfl ⟨N + 1, gx_ty9 hm hN h (N - 1) 1 (N + 1) (by omega) (by omega) (by omega)⟩
theorem gx_o46 {post : SX → Prop} {JJ : Int32 → Int32 → Int32 → gv_F → gv_F → gv_F → gv_F → gv_F → gv_F → gv_F → gv_F → gv_F → gv_F → gv_F → gv_F → gv_F → gv_F → gv_F → gv_F →  Prop} {a : Nat} (ha : a < 8) (h : JJ (nI (a + 1)) (nI a) (nI (a + 1)) inp rec dcd typ (gv_wi ord (gv_O mb N) (a + 1)) mod vcs nzs str isd vct bwd prd res cof lev) :
    ∀ d k n, k + d = a → d < n → (∀ j, k ≤ j → j < a → gv_ty mb N j = 2) → wX_fixOrder_46 post JJ (nI a) qu rg bf ph fc dc oc wp rp oa na n (nI (k + 1)) (nI k) inp rec dcd typ (gv_wi ord (gv_O mb N) (k + 1)) mod vcs nzs str isd vct bwd prd res cof lev := by
  intro d
  induction d with
  | zero =>
    intro k n hk hn hB
    obtain ⟨n, rfl⟩ : ∃ m, n = m + 1 := ⟨n - 1, by omega⟩
    obtain rfl : k = a := by omega
    exact br_t (nI_le (Nat.le_refl _) (by omega)) (nm_r (nI_1 k) h)
  | succ d ih =>
    intro k n hk hn hB
    obtain ⟨n, rfl⟩ : ∃ m, n = m + 1 := ⟨n - 1, by omega⟩
    refine br_f (nI_ge (by omega) (by omega)) ⟨vp_in_nI (by omega) (by decide), nm_r (e' := gv_wi ord (gv_O mb N) (k + 1 + 1)) ?_ (nm_r (nI_1 (k + 1)) (nm_r (nI_1 k) (ih (k + 1) n (by omega) (by omega) (fun j h1 h2 => hB j (by omega) h2))))⟩
    rw [nI_clamp (by omega)]
    show _ = upd _ (k + 1) (nI (if gv_ty mb N k = 2 then k else gv_na mb N k))
    rw [if_pos (hB k (by omega) (by omega))]
    rfl
theorem gx_o13 {post : SX → Prop} (hN : N < 9) (hT : ∀ k, k < N → typ k = nI (gv_ty mb N k)) (h : post (qu, rg, bf, ph, nI N, dc, oc, wp, rp, oa, na, inp, rec, dcd, typ, gv_wi ord (gv_O mb N) N, mod, vcs, nzs, str, isd, vct, bwd, prd, res, cof, lev)) :
    ∀ d a n, a + d = N → d < n → ∀ p, p < a → (∀ j, p < j → j < a → gv_ty mb N j = 2) → gv_ty mb N p ≠ 2 → wX_fixOrder_13 post qu rg bf ph (nI N) dc oc wp rp oa na n (nI (p + 1)) (nI p) (nI a) inp rec dcd typ (gv_wi ord (gv_O mb N) (p + 1)) mod vcs nzs str isd vct bwd prd res cof lev := by
  intro d
  induction d with
  | zero =>
    intro a n ha hn p hp hB hA
    obtain ⟨n, rfl⟩ : ∃ m, n = m + 1 := ⟨n - 1, by omega⟩
    obtain rfl : a = N := by omega
    obtain rfl : a = p + 1 := by
      rcases Nat.lt_or_ge p (a - 1) with z | z
      · exact absurd (hB (a - 1) z (by omega)) gv_ty_l
      · omega
    exact br_t (nI_le (Nat.le_refl _) (by omega)) h
  | succ d ih =>
    intro a n ha hn p hp hB hA
    obtain ⟨n, rfl⟩ : ∃ m, n = m + 1 := ⟨n - 1, by omega⟩
    have ht : typ (nI a).toNatClampNeg = nI (gv_ty mb N a) := by rw [nI_clamp (by omega)]; exact hT a (by omega)
    refine br_f (nI_ge (by omega) (by omega)) ⟨vp_in_nI (by omega) (by decide), ?_⟩
    by_cases c : gv_ty mb N a = 2
    · refine br_t (by rw [ht, c]; rfl) (nm_r (nI_1 a) (ih (a + 1) n (by omega) (by omega) p (by omega) (fun j h1 h2 => ?_) hA))
      by_cases z : j = a
      · rw [z]; exact c
      · exact hB j h1 (by omega)
    · refine br_f (by rw [ht, gv_ty2]; exact c) ⟨vp_in_nI (by omega) (by decide), nm_r (e' := gv_wi ord (gv_O mb N) (p + 1 + 1)) ?_ (nm_r (nI_1 (p + 1)) (nm_r (nI_1 p) ⟨9, gx_o46 (by omega) (ih (a + 1) n (by omega) (by omega) a (by omega) (fun j h1 h2 => by omega) c) (a - (p + 1)) (p + 1) 9 (by omega) (by omega) (fun j h1 h2 => hB j (by omega) h2)⟩))⟩
      rw [nI_clamp (by omega)]
      show _ = upd _ (p + 1) (nI (if gv_ty mb N p = 2 then p else gv_na mb N p))
      rw [if_neg hA, gv_na_e c hp (by omega) hB]
      rfl
theorem gx_order {post : SX → Prop} (hN : N < 9) (h1 : 1 ≤ N) (hT : ∀ k, k < N → typ k = nI (gv_ty mb N k)) (h : post (qu, rg, bf, ph, nI N, dc, oc, wp, rp, oa, na, inp, rec, dcd, typ, gv_wi ord (gv_O mb N) N, mod, vcs, nzs, str, isd, vct, bwd, prd, res, cof, lev)) : wpX_fixOrder post (qu, rg, bf, ph, nI N, dc, oc, wp, rp, oa, na, inp, rec, dcd, typ, ord, mod, vcs, nzs, str, isd, vct, bwd, prd, res, cof, lev) :=
  nm_r (e' := gv_wi ord (gv_O mb N) 1) rfl ⟨N + 1, gx_o13 hN hT h (N - 1) 1 (N + 1) (by omega) (by omega) 0 (by omega) (fun j a b => by omega) (fun z => by cases z)⟩
theorem gx_ab4 {post : Int32 → Prop} {f : Nat} (hN : N < 9) (hf : f < N) (hT : ∀ k, k < N → typ k = nI (gv_ty mb N k)) (h : post (nI (gv_pa mb N f))) :
    ∀ d i n, i + d = f → d < n → wX_anchorBefore_4 post (nI f) qu rg bf ph fc dc oc wp rp oa na inp rec dcd typ ord mod vcs nzs str isd vct bwd prd res cof lev n (nI (gv_pa mb N i)) (nI i) := by
  intro d
  induction d with
  | zero =>
    intro i n hi hn
    obtain ⟨n, rfl⟩ : ∃ m, n = m + 1 := ⟨n - 1, by omega⟩
    obtain rfl : i = f := by omega
    exact br_t (nI_le (Nat.le_refl _) (by omega)) h
  | succ d ih =>
    intro i n hi hn
    obtain ⟨n, rfl⟩ : ∃ m, n = m + 1 := ⟨n - 1, by omega⟩
    have ht : typ (nI i).toNatClampNeg = nI (gv_ty mb N i) := by rw [nI_clamp (by omega)]; exact hT i (by omega)
    have I := ih (i + 1) n (by omega) (by omega)
    rw [show gv_pa mb N (i + 1) = if gv_ty mb N i = 2 then gv_pa mb N i else i from rfl] at I
    refine br_f (nI_ge (by omega) (by omega)) ⟨vp_in_nI (by omega) (by decide), br_c (fun c => nm_r (nI_1 i) ?_) (fun c => nm_r (nI_1 i) ?_)⟩
    · rw [ht, gv_ty2] at c
      rw [if_pos c] at I
      exact I
    · rw [ht, gv_ty2] at c
      rw [if_neg c] at I
      exact I
theorem gx_before {post : Int32 → Prop} {f : Nat} (hN : N < 9) (hf : f < N) (hT : ∀ k, k < N → typ k = nI (gv_ty mb N k)) (h : post (nI (gv_pa mb N f))) : wpX_anchorBefore post (qu, rg, bf, ph, fc, dc, oc, wp, rp, oa, na, inp, rec, dcd, typ, ord, mod, vcs, nzs, str, isd, vct, bwd, prd, res, cof, lev) (nI f) := by
  rcases Nat.eq_zero_or_pos f with rfl | z
  · exact ⟨1, br_t (by decide) h⟩
  · exact ⟨9, gx_ab4 (mb := mb) hN hf hT h (f - 1) 1 9 (by omega) (by omega)⟩
theorem gx_aa14 {post : Int32 → Prop} {f : Nat} (hN : N < 9) (hT : ∀ k, k < N → typ k = nI (gv_ty mb N k)) (h : post (nI (gv_na mb N f))) :
    ∀ d k n, k = f + d → k < N → d < n → wX_anchorAfter_14 post (nI f) qu rg bf ph fc dc oc wp rp oa na inp rec dcd typ ord mod vcs nzs str isd vct bwd prd res cof lev n (nI (gv_na mb N k)) (nI k) := by
  intro d
  induction d with
  | zero =>
    intro k n hk hN' hn
    obtain ⟨n, rfl⟩ : ∃ m, n = m + 1 := ⟨n - 1, by omega⟩
    obtain rfl : k = f := by omega
    exact br_t (nI_le (Nat.le_refl _) (by omega)) h
  | succ d ih =>
    intro k n hk hN' hn
    obtain ⟨n, rfl⟩ : ∃ m, n = m + 1 := ⟨n - 1, by omega⟩
    obtain ⟨k, rfl⟩ : ∃ j, k = j + 1 := ⟨k - 1, by omega⟩
    have ht : typ (nI (k + 1)).toNatClampNeg = nI (gv_ty mb N (k + 1)) := by rw [nI_clamp (by omega)]; exact hT _ (by omega)
    have I := ih k n (by omega) (by omega) (by omega)
    rw [show gv_na mb N k = if gv_ty mb N (k + 1) = 2 then gv_na mb N (k + 1) else k + 1 by
      unfold gv_na
      rw [show N - (k + 1) = (N - (k + 1 + 1)) + 1 by omega]
      rfl] at I
    refine br_f (nI_ge (by omega) (by omega)) ⟨vp_in_nI (by omega) (by decide), br_c (fun c => nm_r (pk_m1 k) ?_) (fun c => nm_r (pk_m1 k) ?_)⟩
    · rw [ht, gv_ty2] at c
      rw [if_pos c] at I
      exact I
    · rw [ht, gv_ty2] at c
      rw [if_neg c] at I
      exact I
theorem gx_after {post : Int32 → Prop} {f : Nat} (hN : N < 9) (hf : f < N) (hT : ∀ k, k < N → typ k = nI (gv_ty mb N k)) (h : post (nI (gv_na mb N f))) : wpX_anchorAfter post (qu, rg, bf, ph, nI N, dc, oc, wp, rp, oa, na, inp, rec, dcd, typ, ord, mod, vcs, nzs, str, isd, vct, bwd, prd, res, cof, lev) (nI f) := by
  have e : gv_na mb N (N - 1) = N - 1 := by
    unfold gv_na
    rw [show N - (N - 1 + 1) = 0 by omega]
    rfl
  have I := gx_aa14 (mb := mb) (qu := qu) (rg := rg) (bf := bf) (ph := ph) (fc := nI N) (dc := dc) (oc := oc) (wp := wp) (rp := rp) (oa := oa) (na := na) (inp := inp) (rec := rec) (dcd := dcd) (typ := typ) (ord := ord) (mod := mod) (vcs := vcs) (nzs := nzs) (str := str) (isd := isd) (vct := vct) (bwd := bwd) (prd := prd) (res := res) (cof := cof) (lev := lev) hN hT h (N - 1 - f) (N - 1) 9 (by omega) (by omega) (by omega)
  rw [e] at I
  exact nm_r (gv_m1 (by omega)) (nm_r (gv_m1 (by omega)) ⟨9, I⟩)
theorem gx_sd {post : SX → Prop} (h : post (qu, rg, bf, ph, fc, dc, oc, wp, rp, oa, na, inp, rec, dcd, typ, ord, mod, vcs, nzs, str, gv_wi isd (fun _ => 0) 8, vct, bwd, prd, res, cof, lev)) :
    ∀ d i n, i + d = 8 → d < n → wX_startDecoder_27 post qu rg bf ph fc dc oc wp rp oa na n (nI i) inp rec dcd typ ord mod vcs nzs str (gv_wi isd (fun _ => 0) i) vct bwd prd res cof lev := by
  intro d
  induction d with
  | zero =>
    intro i n hi hn
    obtain ⟨n, rfl⟩ : ∃ m, n = m + 1 := ⟨n - 1, by omega⟩
    obtain rfl : i = 8 := by omega
    exact br_t (by decide) h
  | succ d ih =>
    intro i n hi hn
    obtain ⟨n, rfl⟩ : ∃ m, n = m + 1 := ⟨n - 1, by omega⟩
    refine br_f (nI_ge (b := 8) (by omega) (by decide)) ⟨vp_in_nI (by omega) (by decide), nm_r (e' := gv_wi isd (fun _ => 0) (i + 1)) ?_ (nm_r (nI_1 i) (ih (i + 1) n (by omega) (by omega)))⟩
    rw [nI_clamp (by omega), gv_b0]
    rfl
theorem gx_start {post : SX → Prop} (h : post (qu, rg, bf, ph, fc, 0, 0, wp, 0, 0, 0, inp, rec, dcd, typ, ord, mod, vcs, nzs, str, gv_wi isd (fun _ => 0) 8, vct, bwd, prd, res, cof, lev)) : wpX_startDecoder post (qu, rg, bf, ph, fc, dc, oc, wp, rp, oa, na, inp, rec, dcd, typ, ord, mod, vcs, nzs, str, isd, vct, bwd, prd, res, cof, lev) :=
  ⟨9, gx_sd h 8 0 9 rfl (by decide)⟩
theorem gx_rel0 {post : SX → Prop} {Dn : Nat → Bool} (hN : N < 9) (hD : ∀ k, k < 8 → (isd k = 0 ↔ Dn k = false))
    (h : ∀ o, o ≤ N → (∀ k, k < o → Dn k = true) → (o < N → Dn o = false) → post (qu, rg, bf, ph, nI N, dc, nI o, wp, rp, oa, na, inp, rec, dcd, typ, ord, mod, vcs, nzs, str, isd, vct, bwd, prd, res, cof, lev)) :
    ∀ d o n, o + d = N → d < n → (∀ k, k < o → Dn k = true) → wX_release_0 post qu rg bf ph (nI N) dc wp rp oa na inp rec dcd typ ord mod vcs nzs str isd vct bwd prd res cof lev n (nI o) := by
  intro d
  induction d with
  | zero =>
    intro o n hi hn ho
    obtain ⟨n, rfl⟩ : ∃ m, n = m + 1 := ⟨n - 1, by omega⟩
    obtain rfl : o = N := by omega
    exact br_t (nI_le (Nat.le_refl _) (by omega)) (h o (Nat.le_refl _) ho (fun z => by omega))
  | succ d ih =>
    intro o n hi hn ho
    obtain ⟨n, rfl⟩ : ∃ m, n = m + 1 := ⟨n - 1, by omega⟩
    have e : isd (nI o).toNatClampNeg = 0 ↔ Dn o = false := by rw [nI_clamp (by omega)]; exact hD o (by omega)
    refine br_f (nI_ge (by omega) (by omega)) ⟨vp_in_nI (by omega) (by decide), br_c (fun c => h o (by omega) ho (fun _ => e.mp c)) (fun c => nm_r (nI_1 o) (ih (o + 1) n (by omega) (by omega) (fun k hk => ?_)))⟩
    by_cases z : k = o
    · subst z
      cases q : Dn k with
      | true => rfl
      | false => exact absurd (e.mpr q) c
    · exact ho k (by omega)
theorem gx_release {post : SX → Prop} {Dn : Nat → Bool} {o : Nat} (hN : N < 9) (ho : o ≤ N) (hD : ∀ k, k < 8 → (isd k = 0 ↔ Dn k = false)) (h0 : ∀ k, k < o → Dn k = true)
    (h : ∀ o, o ≤ N → (∀ k, k < o → Dn k = true) → (o < N → Dn o = false) → post (qu, rg, bf, ph, nI N, dc, nI o, wp, rp, oa, na, inp, rec, dcd, typ, ord, mod, vcs, nzs, str, isd, vct, bwd, prd, res, cof, lev)) : wpX_release post (qu, rg, bf, ph, nI N, dc, nI o, wp, rp, oa, na, inp, rec, dcd, typ, ord, mod, vcs, nzs, str, isd, vct, bwd, prd, res, cof, lev) :=
  ⟨N + 1, gx_rel0 hN hD h (N - o) o (N + 1) (by omega) (by omega) h0⟩
end
