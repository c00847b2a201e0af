/-! Y: encode, isDecoded, outCount -/
theorem gv_in_t {mb n d f p : Nat} (hp : p < d) (e : gv_od mb n p = f) : gv_in mb n d f = true := by
  unfold gv_in
  rw [List.any_eq_true]
  exact ⟨p, List.mem_range.mpr hp, by simpa using e⟩
theorem gv_in_f {mb n d f : Nat} (h : ∀ p, p < d → gv_od mb n p ≠ f) : gv_in mb n d f = false := by
  cases q : gv_in mb n d f with
  | false => rfl
  | true =>
    obtain ⟨p, hp, e⟩ := gv_in_e q
    exact absurd e (h p hp)
section
variable {yq yr yb yn yp yd yx yy : Int32} {inq req yo ymo yve ynz ypp ypd yzc : Nat → Int32}
variable {q r mb N p : Nat} {G : Nat → gv_Q}
theorem gy_e105 {post : Int32 → SY → Prop} {JJ : Int32 → Int32 → Int32 → Int32 → Int32 → Int32 → Int32 → Int32 → Int32 →  gv_F → gv_F → gv_F → gv_F → gv_F → gv_F → gv_F → gv_F → gv_F →  Prop} (hq1 : 1 ≤ q) (hq2 : q ≤ 64) (hr : r < 3) (hm : mb < 4) (hN : N < 9) (hp : p < N) (hO : ∀ k, k < N → yo k = nI (gv_od mb N k)) (hi : gv_P inq)
    (hG : ∀ b, b < 4 → gv_blk inq q r (gv_ty mb N (gv_od mb N p)) (gv_od mb N p) b (gv_pa mb N (gv_od mb N p)) (gv_na mb N (gv_od mb N p)) (G (4 * p + b)) = G (4 * p + b + 1)) (hP : ∀ k, gv_P (G k).1)
    (h : ∀ (yx yy : Int32) (ypp ypd yzc : gv_F), JJ (nI (p + 1)) (nI q) (nI r) (nI mb) (nI N) yp yd yx yy inq ((G (4 * (p + 1))).1) yo ((G (4 * (p + 1))).2.1) ((G (4 * (p + 1))).2.2.1) ((G (4 * (p + 1))).2.2.2) ypp ypd yzc) :
    ∀ d b n, b + d = 4 → d < n → ∀ (yx yy : Int32) (ypp ypd yzc : gv_F), wY_encode_105 post JJ (nI p) n (nI b) (nI q) (nI r) (nI mb) (nI N) yp yd yx yy inq ((G (4 * p + b)).1) yo ((G (4 * p + b)).2.1) ((G (4 * p + b)).2.2.1) ((G (4 * p + b)).2.2.2) ypp ypd yzc := by
  have hfN := gv_od_lt mb hm N hN p hp
  intro d
  induction d with
  | zero =>
    intro b n hb hn yx yy ypp ypd yzc
    obtain ⟨n, rfl⟩ : ∃ m, n = m + 1 := ⟨n - 1, by omega⟩
    obtain rfl : b = 4 := by omega
    exact br_t (by decide) (nm_r (nI_1 p) (h yx yy ypp ypd yzc))
  | succ d ih =>
    intro b n hb hn yx yy ypp ypd yzc
    obtain ⟨n, rfl⟩ : ∃ m, n = m + 1 := ⟨n - 1, by omega⟩
    have hb4 : b < 4 := by omega
    have e := hG b hb4
    have I := ih (b + 1) n (by omega) (by omega)
    rw [show 4 * p + (b + 1) = 4 * p + b + 1 from rfl] at I
    refine br_f (nI_ge (b := 4) (by omega) (by decide)) ⟨vp_in_nI (by omega) (by decide), ?_⟩
    rw [nI_clamp (by omega), hO p hp]
    exact gy_codeBlock hq1 hq2 hr hm hN (by omega) hfN hb4 hi (hP _) (fun yx yy pp pd zc s' es => nm_r (nI_1 b) (by
      rw [e] at es
      subst es
      exact I yx yy pp pd zc))
theorem gy_e94 {post : Int32 → SY → Prop} (hq1 : 1 ≤ q) (hq2 : q ≤ 64) (hr : r < 3) (hm : mb < 4) (hN : N < 9) (hO : ∀ k, k < N → yo k = nI (gv_od mb N k)) (hi : gv_P inq)
    (hG : ∀ p b, b < 4 → gv_blk inq q r (gv_ty mb N (gv_od mb N p)) (gv_od mb N p) b (gv_pa mb N (gv_od mb N p)) (gv_na mb N (gv_od mb N p)) (G (4 * p + b)) = G (4 * p + b + 1)) (hP : ∀ k, gv_P (G k).1)
    (h : ∀ (yx yy : Int32) (ypp ypd yzc : gv_F), post (nI N) (nI q, nI r, nI mb, nI N, 1, 0, yx, yy, inq, (G (4 * N)).1, yo, (G (4 * N)).2.1, (G (4 * N)).2.2.1, (G (4 * N)).2.2.2, ypp, ypd, yzc)) :
    ∀ d p n, p + d = N → d < n → ∀ (yx yy : Int32) (ypp ypd yzc : gv_F), wY_encode_94 post n (nI p) (nI q) (nI r) (nI mb) (nI N) yp yd yx yy inq ((G (4 * p)).1) yo ((G (4 * p)).2.1) ((G (4 * p)).2.2.1) ((G (4 * p)).2.2.2) ypp ypd yzc := by
  intro d
  induction d with
  | zero =>
    intro p n hp hn yx yy ypp ypd yzc
    obtain ⟨n, rfl⟩ : ∃ m, n = m + 1 := ⟨n - 1, by omega⟩
    obtain rfl : p = N := by omega
    exact br_t (nI_le (Nat.le_refl _) (by omega)) (h yx yy ypp ypd yzc)
  | succ d ih =>
    intro p n hp hn yx yy ypp ypd yzc
    obtain ⟨n, rfl⟩ : ∃ m, n = m + 1 := ⟨n - 1, by omega⟩
    exact br_f (nI_ge (by omega) (by omega)) ⟨5, gy_e105 (G := G) hq1 hq2 hr hm hN (by omega) hO hi (hG p) hP (fun yx yy ypp ypd yzc => ih (p + 1) n (by omega) (by omega) yx yy ypp ypd yzc) 4 0 5 rfl (by decide) yx yy ypp ypd yzc⟩
theorem gy_o61 {post : Int32 → SY → Prop} {JJ : Int32 → Int32 → Int32 → gv_F → gv_F → gv_F → gv_F → gv_F → gv_F → gv_F → gv_F → gv_F →  Prop} {a : Nat} (ha : a < 8) (h : JJ (nI (a + 1)) (nI a) (nI (a + 1)) inq req (gv_wi yo (gv_O mb N) (a + 1)) ymo yve ynz ypp ypd yzc) :
    ∀ d k n, k + d = a → d < n → (∀ j, k ≤ j → j < a → gv_ty mb N j = 2) → wY_encode_61 post JJ (nI a) yq yr yb yn yp yd yx yy n (nI (k + 1)) (nI k) inq req (gv_wi yo (gv_O mb N) (k + 1)) ymo yve ynz ypp ypd yzc := by
  intro d
  induction d with
  | zero =>
    intro k n hk hn hB
    obtain ⟨n, rfl⟩ : ∃ m, n = m + 1 := ⟨n - 1, by omega⟩
    obtain rfl : k = a := by omega
    exact br_t (nI_le (Nat.le_refl _) (by omega)) (nm_r (nI_1 k) h)
  | succ d ih =>
    intro k n hk hn hB
    obtain ⟨n, rfl⟩ : ∃ m, n = m + 1 := ⟨n - 1, by omega⟩
    refine br_f (nI_ge (by omega) (by omega)) ⟨vp_in_nI (by omega) (by decide), nm_r (e' := gv_wi yo (gv_O mb N) (k + 1 + 1)) ?_ (nm_r (nI_1 (k + 1)) (nm_r (nI_1 k) (ih (k + 1) n (by omega) (by omega) (fun j h1 h2 => hB j (by omega) h2))))⟩
    rw [nI_clamp (by omega)]
    show _ = upd _ (k + 1) (nI (if gv_ty mb N k = 2 then k else gv_na mb N k))
    rw [if_pos (hB k (by omega) (by omega))]
    rfl
theorem gy_o29 {post : Int32 → SY → Prop} (hm : mb < 4) (hN : N < 9) (hN1 : 1 ≤ N) (h : ∃ n, wY_encode_94 post n 0 yq yr (nI mb) (nI N) yp yd yx yy inq req (gv_wi yo (gv_O mb N) N) ymo yve ynz ypp ypd yzc) :
    ∀ d a n, a + d = N → d < n → ∀ p, p < a → (∀ j, p < j → j < a → gv_ty mb N j = 2) → gv_ty mb N p ≠ 2 → wY_encode_29 post yq yr (nI mb) (nI N) yp yd yx yy n (nI (p + 1)) (nI p) (nI a) inq req (gv_wi yo (gv_O mb N) (p + 1)) ymo yve ynz ypp ypd yzc := by
  intro d
  induction d with
  | zero =>
    intro a n ha hn p hp hB hA
    obtain ⟨n, rfl⟩ : ∃ m, n = m + 1 := ⟨n - 1, by omega⟩
    obtain rfl : a = N := by omega
    obtain rfl : a = p + 1 := by
      rcases Nat.lt_or_ge p (a - 1) with z | z
      · exact absurd (hB (a - 1) z (by omega)) gv_ty_l
      · omega
    exact br_t (nI_le (Nat.le_refl _) (by omega)) h
  | succ d ih =>
    intro a n ha hn p hp hB hA
    obtain ⟨n, rfl⟩ : ∃ m, n = m + 1 := ⟨n - 1, by omega⟩
    refine br_f (nI_ge (by omega) (by omega)) (gy_type hm hN hN1 (by omega) ?_)
    by_cases c : gv_ty mb N a = 2
    · refine br_t (by rw [c]; rfl) (nm_r (nI_1 a) (ih (a + 1) n (by omega) (by omega) p (by omega) (fun j h1 h2 => ?_) hA))
      by_cases z : j = a
      · rw [z]; exact c
      · exact hB j h1 (by omega)
    · refine br_f (by rw [gv_ty2]; exact c) ⟨vp_in_nI (by omega) (by decide), nm_r (e' := gv_wi yo (gv_O mb N) (p + 1 + 1)) ?_ (nm_r (nI_1 (p + 1)) (nm_r (nI_1 p) ⟨9, gy_o61 (by omega) (ih (a + 1) n (by omega) (by omega) a (by omega) (fun j h1 h2 => by omega) c) (a - (p + 1)) (p + 1) 9 (by omega) (by omega) (fun j h1 h2 => hB j (by omega) h2)⟩))⟩
      rw [nI_clamp (by omega)]
      show _ = upd _ (p + 1) (nI (if gv_ty mb N p = 2 then p else gv_na mb N p))
      rw [if_neg hA, gv_na_e c hp (by omega) hB]
      rfl
theorem gy_encode {post : Int32 → SY → Prop} (hq1 : 1 ≤ q) (hq2 : q ≤ 64) (hr : r < 3) (hm : mb < 4) (hN : N < 9) (h1 : 1 ≤ N) (hi : gv_P inq) (hR : gv_P req)
    (h : ∀ (s : gv_Q) (yx yy : Int32) (ypp ypd yzc : gv_F), s = gv_run inq q r mb N (req, ymo, yve, ynz) (4 * N) → post (nI N) (nI q, nI r, nI mb, nI N, 1, 0, yx, yy, inq, s.1, gv_wi yo (gv_O mb N) N, s.2.1, s.2.2.1, s.2.2.2, ypp, ypd, yzc)) :
    wpY_encode post (nI q, nI r, nI mb, nI N, 0, yd, yx, yy, inq, req, yo, ymo, yve, ynz, ypp, ypd, yzc) :=
  br_t rfl (br_f (nI_ne0 (by omega) (by omega)) (nm_r (e' := gv_wi yo (gv_O mb N) 1) rfl ⟨N + 1, gy_o29 hm hN h1 ⟨N + 1, gy_e94 (yo := gv_wi yo (gv_O mb N) N) (G := gv_run inq q r mb N (req, ymo, yve, ynz)) hq1 hq2 hr hm hN (fun k hk => gv_wi_h hk) hi (fun p b hb => gv_run_s hb) (fun k => gv_run_p hR k) (fun yx yy ypp ypd yzc => h _ yx yy ypp ypd yzc rfl) N 0 (N + 1) (by omega) (by omega) yx yy ypp ypd yzc⟩ (N - 1) 1 (N + 1) (by omega) (by omega) 0 (by omega) (fun j a b => by omega) (fun z => by cases z)⟩))
theorem gy_is2 {post : Int32 → Prop} {d k : Nat} (hd : d ≤ 8) (hk : k < 8) (hO : ∀ p, p < d → yo p = nI (gv_od mb N p) ∧ gv_od mb N p < 8) (h1 : gv_in mb N d k = true → post 1) (h0 : gv_in mb N d k = false → post 0) :
    ∀ c i n, i + c = d → c < n → (∀ p, p < i → gv_od mb N p ≠ k) → wY_isDecoded_2 post (nI k) yq yr yb yn yp (nI d) yx yy inq req yo ymo yve ynz ypp ypd yzc n (nI i) := by
  intro c
  induction c with
  | zero =>
    intro i n hi hn H
    obtain ⟨n, rfl⟩ : ∃ m, n = m + 1 := ⟨n - 1, by omega⟩
    obtain rfl : i = d := by omega
    exact br_t (nI_le (Nat.le_refl _) (by omega)) (h0 (gv_in_f H))
  | succ c ih =>
    intro i n hi hn H
    obtain ⟨n, rfl⟩ : ∃ m, n = m + 1 := ⟨n - 1, by omega⟩
    obtain ⟨o1, o2⟩ := hO i (by omega)
    have e : yo (nI i).toNatClampNeg = nI k ↔ gv_od mb N i = k := by rw [nI_clamp (by omega), o1]; exact nI_eq (by omega) (by omega)
    refine br_f (nI_ge (by omega) (by omega)) (br_f (nI_ge (b := 8) (by omega) (by decide)) ⟨vp_in_nI (by omega) (by decide), br_c (fun z => h1 (gv_in_t (p := i) (by omega) (e.mp z))) (fun z => nm_r (nI_1 i) (ih (i + 1) n (by omega) (by omega) (fun p hp => ?_)))⟩)
    by_cases y : p = i
    · subst y; exact fun x => z (e.mpr x)
    · exact H p (by omega)
theorem gy_isDec {post : Int32 → Prop} {d k : Nat} (hd : d ≤ 8) (hk : k < 8) (hO : ∀ p, p < d → yo p = nI (gv_od mb N p) ∧ gv_od mb N p < 8) (h1 : gv_in mb N d k = true → post 1) (h0 : gv_in mb N d k = false → post 0) : wpY_isDecoded post (yq, yr, yb, yn, yp, nI d, yx, yy, inq, req, yo, ymo, yve, ynz, ypp, ypd, yzc) (nI k) :=
  ⟨d + 1, gy_is2 hd hk hO h1 h0 d 0 (d + 1) (by omega) (by omega) (fun p hp => by omega)⟩
theorem gy_oc0 {post : Int32 → Prop} {x : Int32} (hN : N < 9) (h : post x) : ∀ c k n, k + c = N → c < n → wY_outCount_6 post yq yr yb (nI N) yp yd yx yy inq req yo ymo yve ynz ypp ypd yzc n x 0 (nI k) := by
  intro c
  induction c with
  | zero =>
    intro k n hk hn
    obtain ⟨n, rfl⟩ : ∃ m, n = m + 1 := ⟨n - 1, by omega⟩
    obtain rfl : k = N := by omega
    exact br_t (nI_le (Nat.le_refl _) (by omega)) h
  | succ c ih =>
    intro k n hk hn
    obtain ⟨n, rfl⟩ : ∃ m, n = m + 1 := ⟨n - 1, by omega⟩
    exact br_f (nI_ge (by omega) (by omega)) (br_t rfl (nm_r (nI_1 k) (ih (k + 1) n (by omega) (by omega))))
theorem gy_oc1 {post : Int32 → Prop} {d o : Nat} (hN : N < 9) (hd : d ≤ 8) (hO : ∀ p, p < d → yo p = nI (gv_od mb N p) ∧ gv_od mb N p < 8) (HO : gv_OC mb N d o) (h : post (nI o)) :
    ∀ c k n, k + c = N → c < n → k ≤ o → wY_outCount_6 post yq yr yb (nI N) yp (nI d) yx yy inq req yo ymo yve ynz ypp ypd yzc n (nI k) 1 (nI k) := by
  obtain ⟨o1, o2, o3⟩ := HO
  intro c
  induction c with
  | zero =>
    intro k n hk hn hko
    obtain ⟨n, rfl⟩ : ∃ m, n = m + 1 := ⟨n - 1, by omega⟩
    obtain rfl : k = N := by omega
    obtain rfl : o = k := by omega
    exact br_t (nI_le (Nat.le_refl _) (by omega)) h
  | succ c ih =>
    intro k n hk hn hko
    obtain ⟨n, rfl⟩ : ∃ m, n = m + 1 := ⟨n - 1, by omega⟩
    refine br_f (nI_ge (by omega) (by omega)) (br_f (by decide) (gy_isDec (mb := mb) (N := N) hd (by omega) hO (fun z => br_f (by decide) (nm_r (nI_1 k) (nm_r (nI_1 k) (ih (k + 1) n (by omega) (by omega) ?_)))) (fun z => br_t rfl (nm_r (nI_1 k) ?_))))
    · rcases Nat.lt_or_ge k o with y | y
      · omega
      · obtain rfl : o = k := by omega
        have := o3 (by omega)
        rw [this] at z
        cases z
    · have e : o = k := by
        rcases Nat.lt_or_ge k o with y | y
        · have := o2 k y
          rw [this] at z
          cases z
        · omega
      subst e
      exact gy_oc0 hN h c (o + 1) n (by omega) (by omega)
theorem gy_out {post : Int32 → Prop} {d o : Nat} (hN : N < 9) (hd : d ≤ 8) (hO : ∀ p, p < d → yo p = nI (gv_od mb N p) ∧ gv_od mb N p < 8) (HO : gv_OC mb N d o) (h : post (nI o)) : wpY_outCount post (yq, yr, yb, nI N, yp, nI d, yx, yy, inq, req, yo, ymo, yve, ynz, ypp, ypd, yzc) :=
  ⟨N + 1, gy_oc1 hN hd hO HO h N 0 (N + 1) (by omega) (by omega) (by omega)⟩
end
