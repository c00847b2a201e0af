/-! the relation -/
def gv_L (q r mb n : Nat) (inp rec : gv_F) : Prop := (1 ≤ q ∧ q ≤ 64) ∧ r < 3 ∧ mb < 4 ∧ n < 9 ∧ gv_P inp ∧ gv_P rec
def gv_C (q mb n d o : Nat) (rec dcd typ ord str isd : gv_F) (rp oa na : Int32) : Prop :=
  1 ≤ n ∧ d ≤ n ∧ (∀ k, k < n → typ k = nI (gv_ty mb n k)) ∧ (∀ p, p < n → ord p = nI (gv_od mb n p)) ∧ rp = nI (899 * d) ∧ oa = nI (gv_ol mb n d) ∧ na = nI (gv_nw mb n d) ∧
  gv_J q mb n str rec n 0 ∧ gv_D mb n rec dcd d 0 ∧ gv_OC mb n d o ∧ (∀ k, k < 8 → (isd k = 0 ↔ gv_in mb n d k = false))
def i_Rel (k : Nat) (u : SX) (v : SY) : Prop := ∃ (q r mb n d o : Nat) (ph wp rp oa na yx yy : Int32) (inp rec dcd typ ord mod vcs nzs str isd vct bwd prd res cof lev ypp ypd yzc : gv_F),
  u = (nI q, nI r, nI mb, ph, nI n, nI d, nI o, wp, rp, oa, na, inp, rec, dcd, typ, ord, mod, vcs, nzs, str, isd, vct, bwd, prd, res, cof, lev) ∧
  v = (nI q, nI r, nI mb, nI n, ph, nI d, yx, yy, inp, rec, ord, mod, vcs, nzs, ypp, ypd, yzc) ∧
  gv_L q r mb n inp rec ∧ ((ph = 0 ∧ d = 0 ∧ o = 0) ∨ (ph = 1 ∧ gv_C q mb n d o rec dcd typ ord str isd rp oa na))
