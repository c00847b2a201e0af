/-! types, anchors, coding order: over 4 * 9 cases -/
def gv_ty (mb n k : Nat) : Nat := if k = 0 then 0 else if k % (mb + 1) = 0 ∨ k = n - 1 then 1 else 2
def gv_pa (mb n : Nat) : Nat → Nat
  | 0 => 0
  | k + 1 => if gv_ty mb n k = 2 then gv_pa mb n k else k
def gv_nx (mb n : Nat) : Nat → Nat → Nat
  | 0, _ => n - 1
  | d + 1, a => if gv_ty mb n a = 2 then gv_nx mb n d (a + 1) else a
def gv_na (mb n k : Nat) : Nat := gv_nx mb n (n - (k + 1)) (k + 1)
def gv_od (mb n : Nat) : Nat → Nat
  | 0 => 0
  | j + 1 => if gv_ty mb n j = 2 then j else gv_na mb n j
def gv_nw (mb n : Nat) : Nat → Nat
  | 0 => 0
  | d + 1 => if gv_ty mb n (gv_od mb n d) = 2 then gv_nw mb n d else gv_od mb n d
def gv_ol (mb n : Nat) : Nat → Nat
  | 0 => 0
  | d + 1 => if gv_ty mb n (gv_od mb n d) = 2 then gv_ol mb n d else gv_nw mb n d
theorem gv_ty_3 (mb n k : Nat) : gv_ty mb n k < 3 := by
  unfold gv_ty; split; omega; split <;> omega
theorem gv_od_lt : ∀ mb, mb < 4 → ∀ n, n < 9 → ∀ p, p < n → gv_od mb n p < n := by decide +kernel
theorem gv_od_inj : ∀ mb, mb < 4 → ∀ n, n < 9 → ∀ p, p < n → ∀ s, s < n → gv_od mb n p = gv_od mb n s → p = s := by decide +kernel
theorem gv_pa_lt : ∀ mb, mb < 4 → ∀ n, n < 9 → ∀ k, k < n → gv_pa mb n k < n ∧ gv_na mb n k < n := by decide +kernel
/-- what a frame looks at isn't coded at its place or later -/
theorem gv_pa_ne1 : ∀ mb, mb < 4 → ∀ n, n < 9 → ∀ p, p < n → ∀ s, s < p + 1 → gv_ty mb n (gv_od mb n s) = 0 ∨ gv_pa mb n (gv_od mb n s) ≠ gv_od mb n p := by decide +kernel
theorem gv_pa_ne2 : ∀ mb, mb < 4 → ∀ n, n < 9 → ∀ p, p < n → ∀ s, s < p + 1 → gv_ty mb n (gv_od mb n s) ≠ 2 ∨ gv_na mb n (gv_od mb n s) ≠ gv_od mb n p := by decide +kernel
theorem gv_pa_ne (mb : Nat) (hm : mb < 4) (n : Nat) (hn : n < 9) (p : Nat) (hp : p < n) (s : Nat) (hs : s ≤ p) : (gv_ty mb n (gv_od mb n s) ≠ 0 → gv_pa mb n (gv_od mb n s) ≠ gv_od mb n p) ∧ (gv_ty mb n (gv_od mb n s) = 2 → gv_na mb n (gv_od mb n s) ≠ gv_od mb n p) :=
  ⟨fun z => (gv_pa_ne1 mb hm n hn p hp s (by omega)).resolve_left z, fun z => (gv_pa_ne2 mb hm n hn p hp s (by omega)).resolve_left (fun y => y z)⟩
def gv_in (mb n d f : Nat) : Bool := (List.range d).any (fun p => gv_od mb n p == f)
theorem gv_in_e {mb n d f : Nat} (h : gv_in mb n d f = true) : ∃ p, p < d ∧ gv_od mb n p = f := by
  unfold gv_in at h
  rw [List.any_eq_true] at h
  obtain ⟨p, hp, e⟩ := h
  exact ⟨p, List.mem_range.mp hp, by simpa using e⟩
theorem gv_an_B1 : ∀ mb, mb < 4 → ∀ n, n < 9 → ∀ d, d < n → gv_ty mb n (gv_od mb n d) = 2 → gv_ol mb n d = gv_pa mb n (gv_od mb n d) ∧ gv_nw mb n d = gv_na mb n (gv_od mb n d) := by decide +kernel
theorem gv_an_B2 : ∀ mb, mb < 4 → ∀ n, n < 9 → ∀ d, d < n → gv_ty mb n (gv_od mb n d) = 2 → gv_in mb n d (gv_pa mb n (gv_od mb n d)) = true ∧ gv_in mb n d (gv_na mb n (gv_od mb n d)) = true := by decide +kernel
theorem gv_an_B (mb : Nat) (hm : mb < 4) (n : Nat) (hn : n < 9) (d : Nat) (hd : d < n) (h : gv_ty mb n (gv_od mb n d) = 2) : gv_ol mb n d = gv_pa mb n (gv_od mb n d) ∧ gv_nw mb n d = gv_na mb n (gv_od mb n d) ∧ gv_in mb n d (gv_pa mb n (gv_od mb n d)) = true ∧ gv_in mb n d (gv_na mb n (gv_od mb n d)) = true :=
  ⟨(gv_an_B1 mb hm n hn d hd h).1, (gv_an_B1 mb hm n hn d hd h).2, (gv_an_B2 mb hm n hn d hd h).1, (gv_an_B2 mb hm n hn d hd h).2⟩
theorem gv_an_P : ∀ mb, mb < 4 → ∀ n, n < 9 → ∀ d, d < n → gv_ty mb n (gv_od mb n d) = 1 → gv_nw mb n d = gv_pa mb n (gv_od mb n d) ∧ gv_in mb n d (gv_pa mb n (gv_od mb n d)) = true := by decide +kernel
theorem gv_an_lt : ∀ mb, mb < 4 → ∀ n, n < 9 → ∀ d, d ≤ n → gv_nw mb n d < 8 ∧ gv_ol mb n d < 8 := by decide +kernel
/-- the next anchor, found by its neighbours -/
theorem gv_nx_e {mb n a : Nat} (h2 : gv_ty mb n a ≠ 2) : ∀ d k, k ≤ a → a < k + d → (∀ j, k ≤ j → j < a → gv_ty mb n j = 2) → gv_nx mb n d k = a
  | 0, k, h, h', _ => by omega
  | d + 1, k, h, h', hB => by
    show (if gv_ty mb n k = 2 then gv_nx mb n d (k + 1) else k) = a
    by_cases e : k = a
    · subst e; rw [if_neg h2]
    · rw [if_pos (hB k (by omega) (by omega))]
      exact gv_nx_e h2 d (k + 1) (by omega) (by omega) (fun j h1 h3 => hB j (by omega) h3)
theorem gv_na_e {mb n a k : Nat} (h2 : gv_ty mb n a ≠ 2) (hk : k < a) (ha : a < n) (hB : ∀ j, k < j → j < a → gv_ty mb n j = 2) : gv_na mb n k = a :=
  gv_nx_e h2 _ _ (by omega) (by omega) (fun j h1 h3 => hB j (by omega) h3)
theorem gv_ty_l {mb n : Nat} : gv_ty mb n (n - 1) ≠ 2 := by
  unfold gv_ty
  by_cases h : n - 1 = 0
  · rw [if_pos h]; omega
  · rw [if_neg h, if_pos (Or.inr rfl)]; omega
