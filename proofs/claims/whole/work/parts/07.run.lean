/-! the whole coding as a run over blocks -/
abbrev gv_F : Type := Nat → Int32
abbrev gv_Q : Type := gv_F × gv_F × gv_F × gv_F
/-- one block coded: pictures, modes, vectors, counts -/
def gv_blk (inp : gv_F) (q r ty f b past next : Nat) (s : gv_Q) : gv_Q :=
  (gv_nb s.1 inp q r ty f b past next, upd s.2.1 (f * 4 + b) (nI (gv_mo inp s.1 r ty f b past next)),
   gv_w4 s.2.2.1 (f * 4 + b) (gv_vv inp s.1 r (gv_mo inp s.1 r ty f b past next) f b past next), upd s.2.2.2 (f * 4 + b) (gv_nz (gv_ll s.1 inp q r ty f b past next)))
def gv_run (inp : gv_F) (q r mb n : Nat) (s0 : gv_Q) : Nat → gv_Q
  | 0 => s0
  | k + 1 => gv_blk inp q r (gv_ty mb n (gv_od mb n (k / 4))) (gv_od mb n (k / 4)) (k % 4) (gv_pa mb n (gv_od mb n (k / 4))) (gv_na mb n (gv_od mb n (k / 4))) (gv_run inp q r mb n s0 k)
theorem gv_run_s {inp : gv_F} {q r mb n : Nat} {s0 : gv_Q} {p b : Nat} (hb : b < 4) : gv_blk inp q r (gv_ty mb n (gv_od mb n p)) (gv_od mb n p) b (gv_pa mb n (gv_od mb n p)) (gv_na mb n (gv_od mb n p)) (gv_run inp q r mb n s0 (4 * p + b)) = gv_run inp q r mb n s0 (4 * p + b + 1) := by
  show _ = gv_blk inp q r (gv_ty mb n (gv_od mb n ((4 * p + b) / 4))) (gv_od mb n ((4 * p + b) / 4)) ((4 * p + b) % 4) (gv_pa mb n (gv_od mb n ((4 * p + b) / 4))) (gv_na mb n (gv_od mb n ((4 * p + b) / 4))) (gv_run inp q r mb n s0 (4 * p + b))
  rw [show (4 * p + b) / 4 = p by omega, show (4 * p + b) % 4 = b by omega]
theorem gv_run_p {inp : gv_F} {q r mb n : Nat} {s0 : gv_Q} (h : gv_P s0.1) : ∀ k, gv_P (gv_run inp q r mb n s0 k).1
  | 0 => h
  | k + 1 => gv_nb_p (gv_run_p h k) _ _ _ _ _ _ _
theorem gv_nb_e {inp R V L : gv_F} {q r ty f b past next : Nat} (hV : ∀ c, c < 4 → V c = gv_vv inp R r (gv_mo inp R r ty f b past next) f b past next c) (hL : ∀ k, k < 16 → L k = gv_ll R inp q r ty f b past next k) :
    gv_wb R f b (gv_rb (gv_pr R b (gv_mo inp R r ty f b past next) V past next) L q) = gv_nb R inp q r ty f b past next := by
  refine gv_wr_c 16 (fun _ _ => rfl) (fun t ht => gv_rb_c q ?_ hL)
  rw [gv_pr_c hV (fun _ _ => ⟨rfl, fun _ _ => rfl⟩) (fun _ _ => ⟨rfl, fun _ _ => rfl⟩) t, gv_vv_pr (gv_mo_4 _ _ _ _ _ _ _ _)]
  rfl
/-- successive writes at 0, 1, 2 .. -/
def gv_wi (a v : gv_F) : Nat → gv_F := gv_wr a (fun t => t) v
theorem gv_wi_s (a v : gv_F) (n : Nat) : upd (gv_wi a v n) n (v n) = gv_wi a v (n + 1) := rfl
theorem gv_wi_h {a v : gv_F} {n i : Nat} (h : i < n) : gv_wi a v n i = v i := gv_wr_h (g := fun t => t) n (fun _ _ e => e) h
theorem gv_wi_m {a v : gv_F} {n i : Nat} (h : n ≤ i) : gv_wi a v n i = a i := gv_wr_m n (fun _ _ e => by omega)
/-- the texture's numbers -/
def gv_lc (s : Int32) : Nat → Int32
  | 0 => s
  | t + 1 => gv_lc s t * 1664525 + 1013904223
