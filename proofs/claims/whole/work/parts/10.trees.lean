/-! choices written by fives, and the sum over them -/
def tr_dig (c s : Nat) : Nat := c / 5 ^ s % 5
def tr_it (c r : Nat) : Nat → Nat → Nat
  | 0, x => x
  | t + 1, x => tr_it c r t (if x = r then r else tr_dig c x)
def tr_leads (n r c : Nat) : Bool := (List.range n).all (fun s => tr_it c r 5 s == r)
def tr_fine (n r c s : Nat) : Bool := if s = r ∨ n ≤ s then tr_dig c s == 0 else (decide (tr_dig c s < n) && !(tr_dig c s == s))
def tr_good (n r c : Nat) : Bool := tr_fine n r c 0 && tr_fine n r c 1 && tr_fine n r c 2 && tr_fine n r c 3 && tr_fine n r c 4 && tr_leads n r c
def tr_idx (n r c : Nat) : List Nat := ((List.range n).filter (fun s => !(s == r))).map (fun s => 5 * s + tr_dig c s)
def tr_prod (w : Nat → Nat) : List Nat → Nat
  | [] => 1
  | k :: l => w k * tr_prod w l
def tr_sumL (w : Nat → Nat) : List (List Nat) → Nat
  | [] => 0
  | l :: L => tr_prod w l + tr_sumL w L
def tr_sum (w : Nat → Nat) (n r : Nat) : Nat → Nat
  | 0 => 0
  | m + 1 => tr_sum w n r m + if tr_good n r m = true then tr_prod w (tr_idx n r m) else 0
def tr_list (n r : Nat) : Nat → List (List Nat)
  | 0 => []
  | m + 1 => if tr_good n r m = true then tr_idx n r m :: tr_list n r m else tr_list n r m
theorem tr_sum_list (w : Nat → Nat) (n r : Nat) : ∀ m, tr_sum w n r m = tr_sumL w (tr_list n r m) := by
  intro m
  induction m with
  | zero => rfl
  | succ m ih =>
    unfold tr_sum tr_list
    by_cases g : tr_good n r m = true
    · rw [if_pos g, if_pos g, ih]; exact Nat.add_comm _ _
    · rw [if_neg g, if_neg g, ih]; rfl
def tr_prodZ (x : Nat → Int) : List Nat → Int
  | [] => 1
  | k :: l => x k * tr_prodZ x l
def tr_sumZ (x : Nat → Int) : List (List Nat) → Int
  | [] => 0
  | l :: L => tr_prodZ x l + tr_sumZ x L
theorem tr_prod_z (w : Nat → Nat) : ∀ l, (tr_prod w l : Int) = tr_prodZ (fun k => (w k : Int)) l := by
  intro l
  induction l with
  | nil => rfl
  | cons k l ih => unfold tr_prod tr_prodZ; rw [Int.natCast_mul, ih]
theorem tr_sum_z (w : Nat → Nat) : ∀ L, (tr_sumL w L : Int) = tr_sumZ (fun k => (w k : Int)) L := by
  intro L
  induction L with
  | nil => rfl
  | cons l L ih => unfold tr_sumL tr_sumZ; rw [Int.natCast_add, ih, tr_prod_z]
theorem tr_Nd {w : Nat → Nat} {s : Nat} (h : ch_W w s ≠ 0) : ch_N w s s = (ch_W w s : Int) - (w (5 * s + s) : Int) := by
  unfold ch_N ch_tot ch_sw
  rw [if_pos rfl, if_neg h, if_neg h]
theorem tr_No {w : Nat → Nat} {s c : Nat} (h : ch_W w s ≠ 0) (q : s ≠ c) : ch_N w s c = -(w (5 * s + c) : Int) := by
  unfold ch_N ch_sw
  rw [if_neg q, if_neg h]; omega
theorem tr_l10 : tr_list 1 0 3125 = [[]] := by decide +kernel
theorem tr_p10 (x : Nat → Int) : 1 = tr_sumZ x (tr_list 1 0 3125) := by
  rw [tr_l10]
  simp only [tr_sumZ, tr_prodZ, ba_d4, ba_d3, ba_d2]; grobner
theorem tr_l20 : tr_list 2 0 3125 = [[5]] := by decide +kernel
theorem tr_p20 (x : Nat → Int) : (x 5) = tr_sumZ x (tr_list 2 0 3125) := by
  rw [tr_l20]
  simp only [tr_sumZ, tr_prodZ, ba_d4, ba_d3, ba_d2]; grobner
theorem tr_l21 : tr_list 2 1 3125 = [[1]] := by decide +kernel
theorem tr_p21 (x : Nat → Int) : (x 1) = tr_sumZ x (tr_list 2 1 3125) := by
  rw [tr_l21]
  simp only [tr_sumZ, tr_prodZ, ba_d4, ba_d3, ba_d2]; grobner
theorem tr_l30 : tr_list 3 0 3125 = [[5, 11], [7, 10], [5, 10]] := by decide +kernel
theorem tr_p30 (x : Nat → Int) : ba_d2 (x 5 + x 7) (-x 7) (-x 11) (x 10 + x 11) = tr_sumZ x (tr_list 3 0 3125) := by
  rw [tr_l30]
  simp only [tr_sumZ, tr_prodZ, ba_d4, ba_d3, ba_d2]; grobner
theorem tr_l31 : tr_list 3 1 3125 = [[2, 11], [1, 11], [1, 10]] := by decide +kernel
theorem tr_p31 (x : Nat → Int) : ba_d2 (x 1 + x 2) (-x 2) (-x 10) (x 10 + x 11) = tr_sumZ x (tr_list 3 1 3125) := by
  rw [tr_l31]
  simp only [tr_sumZ, tr_prodZ, ba_d4, ba_d3, ba_d2]; grobner
theorem tr_l32 : tr_list 3 2 3125 = [[2, 7], [1, 7], [2, 5]] := by decide +kernel
theorem tr_p32 (x : Nat → Int) : ba_d2 (x 1 + x 2) (-x 1) (-x 5) (x 5 + x 7) = tr_sumZ x (tr_list 3 2 3125) := by
  rw [tr_l32]
  simp only [tr_sumZ, tr_prodZ, ba_d4, ba_d3, ba_d2]; grobner
theorem tr_l40 : tr_list 4 0 3125 = [[5, 11, 17], [8, 10, 17], [7, 10, 17], [5, 10, 17], [5, 13, 16], [5, 11, 16], [7, 10, 16], [5, 10, 16], [8, 13, 15], [7, 13, 15], [5, 13, 15], [8, 11, 15], [5, 11, 15], [8, 10, 15], [7, 10, 15], [5, 10, 15]] := by decide +kernel
theorem tr_p40 (x : Nat → Int) : ba_d3 (x 5 + x 7 + x 8) (-x 7) (-x 8) (-x 11) (x 10 + x 11 + x 13) (-x 13) (-x 16) (-x 17) (x 15 + x 16 + x 17) = tr_sumZ x (tr_list 4 0 3125) := by
  rw [tr_l40]
  simp only [tr_sumZ, tr_prodZ, ba_d4, ba_d3, ba_d2]; grobner
theorem tr_l41 : tr_list 4 1 3125 = [[3, 11, 17], [2, 11, 17], [1, 11, 17], [1, 10, 17], [3, 13, 16], [2, 13, 16], [1, 13, 16], [3, 11, 16], [2, 11, 16], [1, 11, 16], [3, 10, 16], [1, 10, 16], [1, 13, 15], [2, 11, 15], [1, 11, 15], [1, 10, 15]] := by decide +kernel
theorem tr_p41 (x : Nat → Int) : ba_d3 (x 1 + x 2 + x 3) (-x 2) (-x 3) (-x 10) (x 10 + x 11 + x 13) (-x 13) (-x 15) (-x 17) (x 15 + x 16 + x 17) = tr_sumZ x (tr_list 4 1 3125) := by
  rw [tr_l41]
  simp only [tr_sumZ, tr_prodZ, ba_d4, ba_d3, ba_d2]; grobner
theorem tr_l42 : tr_list 4 2 3125 = [[3, 8, 17], [2, 8, 17], [1, 8, 17], [3, 7, 17], [2, 7, 17], [1, 7, 17], [3, 5, 17], [2, 5, 17], [3, 7, 16], [2, 7, 16], [1, 7, 16], [2, 5, 16], [2, 8, 15], [2, 7, 15], [1, 7, 15], [2, 5, 15]] := by decide +kernel
theorem tr_p42 (x : Nat → Int) : ba_d3 (x 1 + x 2 + x 3) (-x 1) (-x 3) (-x 5) (x 5 + x 7 + x 8) (-x 8) (-x 15) (-x 16) (x 15 + x 16 + x 17) = tr_sumZ x (tr_list 4 2 3125) := by
  rw [tr_l42]
  simp only [tr_sumZ, tr_prodZ, ba_d4, ba_d3, ba_d2]; grobner
theorem tr_l43 : tr_list 4 3 3125 = [[3, 8, 13], [2, 8, 13], [1, 8, 13], [3, 7, 13], [2, 7, 13], [1, 7, 13], [3, 5, 13], [2, 5, 13], [3, 8, 11], [2, 8, 11], [1, 8, 11], [3, 5, 11], [3, 8, 10], [1, 8, 10], [3, 7, 10], [3, 5, 10]] := by decide +kernel
theorem tr_p43 (x : Nat → Int) : ba_d3 (x 1 + x 2 + x 3) (-x 1) (-x 2) (-x 5) (x 5 + x 7 + x 8) (-x 7) (-x 10) (-x 11) (x 10 + x 11 + x 13) = tr_sumZ x (tr_list 4 3 3125) := by
  rw [tr_l43]
  simp only [tr_sumZ, tr_prodZ, ba_d4, ba_d3, ba_d2]; grobner
theorem tr_l50 : tr_list 5 0 3125 = [[5, 11, 17, 23], [9, 10, 17, 23], [8, 10, 17, 23], [7, 10, 17, 23], [5, 10, 17, 23], [5, 14, 16, 23], [5, 13, 16, 23], [5, 11, 16, 23], [7, 10, 16, 23], [5, 10, 16, 23], [9, 14, 15, 23], [8, 14, 15, 23], [7, 14, 15, 23], [5, 14, 15, 23], [9, 13, 15, 23], [8, 13, 15, 23], [7, 13, 15, 23], [5, 13, 15, 23], [9, 11, 15, 23], [8, 11, 15, 23], [5, 11, 15, 23], [9, 10, 15, 23], [8, 10, 15, 23], [7, 10, 15, 23], [5, 10, 15, 23], [5, 11, 19, 22], [9, 10, 19, 22], [8, 10, 19, 22], [7, 10, 19, 22], [5, 10, 19, 22], [5, 11, 17, 22], [9, 10, 17, 22], [8, 10, 17, 22], [7, 10, 17, 22], [5, 10, 17, 22], [5, 13, 16, 22], [5, 11, 16, 22], [9, 10, 16, 22], [7, 10, 16, 22], [5, 10, 16, 22], [9, 13, 15, 22], [8, 13, 15, 22], [7, 13, 15, 22], [5, 13, 15, 22], [8, 11, 15, 22], [5, 11, 15, 22], [9, 10, 15, 22], [8, 10, 15, 22], [7, 10, 15, 22], [5, 10, 15, 22], [5, 14, 19, 21], [5, 13, 19, 21], [5, 11, 19, 21], [7, 10, 19, 21], [5, 10, 19, 21], [5, 14, 17, 21], [5, 11, 17, 21], [8, 10, 17, 21], [7, 10, 17, 21], [5, 10, 17, 21], [5, 14, 16, 21], [5, 13, 16, 21], [5, 11, 16, 21], [7, 10, 16, 21], [5, 10, 16, 21], [8, 14, 15, 21], [5, 14, 15, 21], [8, 13, 15, 21], [7, 13, 15, 21], [5, 13, 15, 21], [8, 11, 15, 21], [5, 11, 15, 21], [8, 10, 15, 21], [7, 10, 15, 21], [5, 10, 15, 21], [9, 14, 19, 20], [8, 14, 19, 20], [7, 14, 19, 20], [5, 14, 19, 20], [9, 13, 19, 20], [8, 13, 19, 20], [7, 13, 19, 20], [5, 13, 19, 20], [9, 11, 19, 20], [8, 11, 19, 20], [5, 11, 19, 20], [9, 10, 19, 20], [8, 10, 19, 20], [7, 10, 19, 20], [5, 10, 19, 20], [9, 14, 17, 20], [8, 14, 17, 20], [7, 14, 17, 20], [5, 14, 17, 20], [9, 11, 17, 20], [5, 11, 17, 20], [9, 10, 17, 20], [8, 10, 17, 20], [7, 10, 17, 20], [5, 10, 17, 20], [9, 14, 16, 20], [7, 14, 16, 20], [5, 14, 16, 20], [9, 13, 16, 20], [5, 13, 16, 20], [9, 11, 16, 20], [5, 11, 16, 20], [9, 10, 16, 20], [7, 10, 16, 20], [5, 10, 16, 20], [9, 14, 15, 20], [8, 14, 15, 20], [7, 14, 15, 20], [5, 14, 15, 20], [9, 13, 15, 20], [8, 13, 15, 20], [7, 13, 15, 20], [5, 13, 15, 20], [9, 11, 15, 20], [8, 11, 15, 20], [5, 11, 15, 20], [9, 10, 15, 20], [8, 10, 15, 20], [7, 10, 15, 20], [5, 10, 15, 20]] := by decide +kernel
theorem tr_p50 (x : Nat → Int) : ba_d4 (x 5 + x 7 + x 8 + x 9) (-x 7) (-x 8) (-x 9) (-x 11) (x 10 + x 11 + x 13 + x 14) (-x 13) (-x 14) (-x 16) (-x 17) (x 15 + x 16 + x 17 + x 19) (-x 19) (-x 21) (-x 22) (-x 23) (x 20 + x 21 + x 22 + x 23) = tr_sumZ x (tr_list 5 0 3125) := by
  rw [tr_l50]
  simp only [tr_sumZ, tr_prodZ, ba_d4, ba_d3, ba_d2]; grobner
theorem tr_l51 : tr_list 5 1 3125 = [[4, 11, 17, 23], [3, 11, 17, 23], [2, 11, 17, 23], [1, 11, 17, 23], [1, 10, 17, 23], [4, 14, 16, 23], [3, 14, 16, 23], [2, 14, 16, 23], [1, 14, 16, 23], [4, 13, 16, 23], [3, 13, 16, 23], [2, 13, 16, 23], [1, 13, 16, 23], [4, 11, 16, 23], [3, 11, 16, 23], [2, 11, 16, 23], [1, 11, 16, 23], [4, 10, 16, 23], [3, 10, 16, 23], [1, 10, 16, 23], [1, 14, 15, 23], [1, 13, 15, 23], [2, 11, 15, 23], [1, 11, 15, 23], [1, 10, 15, 23], [4, 11, 19, 22], [3, 11, 19, 22], [2, 11, 19, 22], [1, 11, 19, 22], [1, 10, 19, 22], [4, 11, 17, 22], [3, 11, 17, 22], [2, 11, 17, 22], [1, 11, 17, 22], [1, 10, 17, 22], [4, 13, 16, 22], [3, 13, 16, 22], [2, 13, 16, 22], [1, 13, 16, 22], [4, 11, 16, 22], [3, 11, 16, 22], [2, 11, 16, 22], [1, 11, 16, 22], [3, 10, 16, 22], [1, 10, 16, 22], [1, 13, 15, 22], [4, 11, 15, 22], [2, 11, 15, 22], [1, 11, 15, 22], [1, 10, 15, 22], [4, 14, 19, 21], [3, 14, 19, 21], [2, 14, 19, 21], [1, 14, 19, 21], [4, 13, 19, 21], [3, 13, 19, 21], [2, 13, 19, 21], [1, 13, 19, 21], [4, 11, 19, 21], [3, 11, 19, 21], [2, 11, 19, 21], [1, 11, 19, 21], [4, 10, 19, 21], [3, 10, 19, 21], [1, 10, 19, 21], [4, 14, 17, 21], [3, 14, 17, 21], [2, 14, 17, 21], [1, 14, 17, 21], [4, 11, 17, 21], [3, 11, 17, 21], [2, 11, 17, 21], [1, 11, 17, 21], [4, 10, 17, 21], [1, 10, 17, 21], [4, 14, 16, 21], [3, 14, 16, 21], [2, 14, 16, 21], [1, 14, 16, 21], [4, 13, 16, 21], [3, 13, 16, 21], [2, 13, 16, 21], [1, 13, 16, 21], [4, 11, 16, 21], [3, 11, 16, 21], [2, 11, 16, 21], [1, 11, 16, 21], [4, 10, 16, 21], [3, 10, 16, 21], [1, 10, 16, 21], [4, 14, 15, 21], [2, 14, 15, 21], [1, 14, 15, 21], [4, 13, 15, 21], [1, 13, 15, 21], [4, 11, 15, 21], [2, 11, 15, 21], [1, 11, 15, 21], [4, 10, 15, 21], [1, 10, 15, 21], [1, 14, 19, 20], [1, 13, 19, 20], [2, 11, 19, 20], [1, 11, 19, 20], [1, 10, 19, 20], [1, 14, 17, 20], [3, 11, 17, 20], [2, 11, 17, 20], [1, 11, 17, 20], [1, 10, 17, 20], [3, 14, 16, 20], [1, 14, 16, 20], [3, 13, 16, 20], [2, 13, 16, 20], [1, 13, 16, 20], [3, 11, 16, 20], [2, 11, 16, 20], [1, 11, 16, 20], [3, 10, 16, 20], [1, 10, 16, 20], [1, 14, 15, 20], [1, 13, 15, 20], [2, 11, 15, 20], [1, 11, 15, 20], [1, 10, 15, 20]] := by decide +kernel
theorem tr_p51 (x : Nat → Int) : ba_d4 (x 1 + x 2 + x 3 + x 4) (-x 2) (-x 3) (-x 4) (-x 10) (x 10 + x 11 + x 13 + x 14) (-x 13) (-x 14) (-x 15) (-x 17) (x 15 + x 16 + x 17 + x 19) (-x 19) (-x 20) (-x 22) (-x 23) (x 20 + x 21 + x 22 + x 23) = tr_sumZ x (tr_list 5 1 3125) := by
  rw [tr_l51]
  simp only [tr_sumZ, tr_prodZ, ba_d4, ba_d3, ba_d2]; grobner
theorem tr_l52 : tr_list 5 2 3125 = [[4, 9, 17, 23], [3, 9, 17, 23], [2, 9, 17, 23], [1, 9, 17, 23], [4, 8, 17, 23], [3, 8, 17, 23], [2, 8, 17, 23], [1, 8, 17, 23], [4, 7, 17, 23], [3, 7, 17, 23], [2, 7, 17, 23], [1, 7, 17, 23], [4, 5, 17, 23], [3, 5, 17, 23], [2, 5, 17, 23], [4, 7, 16, 23], [3, 7, 16, 23], [2, 7, 16, 23], [1, 7, 16, 23], [2, 5, 16, 23], [2, 9, 15, 23], [2, 8, 15, 23], [2, 7, 15, 23], [1, 7, 15, 23], [2, 5, 15, 23], [4, 9, 19, 22], [3, 9, 19, 22], [2, 9, 19, 22], [1, 9, 19, 22], [4, 8, 19, 22], [3, 8, 19, 22], [2, 8, 19, 22], [1, 8, 19, 22], [4, 7, 19, 22], [3, 7, 19, 22], [2, 7, 19, 22], [1, 7, 19, 22], [4, 5, 19, 22], [3, 5, 19, 22], [2, 5, 19, 22], [4, 9, 17, 22], [3, 9, 17, 22], [2, 9, 17, 22], [1, 9, 17, 22], [4, 8, 17, 22], [3, 8, 17, 22], [2, 8, 17, 22], [1, 8, 17, 22], [4, 7, 17, 22], [3, 7, 17, 22], [2, 7, 17, 22], [1, 7, 17, 22], [4, 5, 17, 22], [3, 5, 17, 22], [2, 5, 17, 22], [4, 9, 16, 22], [3, 9, 16, 22], [2, 9, 16, 22], [1, 9, 16, 22], [4, 7, 16, 22], [3, 7, 16, 22], [2, 7, 16, 22], [1, 7, 16, 22], [4, 5, 16, 22], [2, 5, 16, 22], [4, 9, 15, 22], [2, 9, 15, 22], [1, 9, 15, 22], [4, 8, 15, 22], [2, 8, 15, 22], [4, 7, 15, 22], [2, 7, 15, 22], [1, 7, 15, 22], [4, 5, 15, 22], [2, 5, 15, 22], [4, 7, 19, 21], [3, 7, 19, 21], [2, 7, 19, 21], [1, 7, 19, 21], [2, 5, 19, 21], [4, 8, 17, 21], [3, 8, 17, 21], [2, 8, 17, 21], [1, 8, 17, 21], [4, 7, 17, 21], [3, 7, 17, 21], [2, 7, 17, 21], [1, 7, 17, 21], [3, 5, 17, 21], [2, 5, 17, 21], [4, 7, 16, 21], [3, 7, 16, 21], [2, 7, 16, 21], [1, 7, 16, 21], [2, 5, 16, 21], [2, 8, 15, 21], [4, 7, 15, 21], [2, 7, 15, 21], [1, 7, 15, 21], [2, 5, 15, 21], [2, 9, 19, 20], [2, 8, 19, 20], [2, 7, 19, 20], [1, 7, 19, 20], [2, 5, 19, 20], [3, 9, 17, 20], [2, 9, 17, 20], [3, 8, 17, 20], [2, 8, 17, 20], [1, 8, 17, 20], [3, 7, 17, 20], [2, 7, 17, 20], [1, 7, 17, 20], [3, 5, 17, 20], [2, 5, 17, 20], [2, 9, 16, 20], [3, 7, 16, 20], [2, 7, 16, 20], [1, 7, 16, 20], [2, 5, 16, 20], [2, 9, 15, 20], [2, 8, 15, 20], [2, 7, 15, 20], [1, 7, 15, 20], [2, 5, 15, 20]] := by decide +kernel
theorem tr_p52 (x : Nat → Int) : ba_d4 (x 1 + x 2 + x 3 + x 4) (-x 1) (-x 3) (-x 4) (-x 5) (x 5 + x 7 + x 8 + x 9) (-x 8) (-x 9) (-x 15) (-x 16) (x 15 + x 16 + x 17 + x 19) (-x 19) (-x 20) (-x 21) (-x 23) (x 20 + x 21 + x 22 + x 23) = tr_sumZ x (tr_list 5 2 3125) := by
  rw [tr_l52]
  simp only [tr_sumZ, tr_prodZ, ba_d4, ba_d3, ba_d2]; grobner
theorem tr_l53 : tr_list 5 3 3125 = [[4, 9, 14, 23], [3, 9, 14, 23], [2, 9, 14, 23], [1, 9, 14, 23], [4, 8, 14, 23], [3, 8, 14, 23], [2, 8, 14, 23], [1, 8, 14, 23], [4, 7, 14, 23], [3, 7, 14, 23], [2, 7, 14, 23], [1, 7, 14, 23], [4, 5, 14, 23], [3, 5, 14, 23], [2, 5, 14, 23], [4, 9, 13, 23], [3, 9, 13, 23], [2, 9, 13, 23], [1, 9, 13, 23], [4, 8, 13, 23], [3, 8, 13, 23], [2, 8, 13, 23], [1, 8, 13, 23], [4, 7, 13, 23], [3, 7, 13, 23], [2, 7, 13, 23], [1, 7, 13, 23], [4, 5, 13, 23], [3, 5, 13, 23], [2, 5, 13, 23], [4, 9, 11, 23], [3, 9, 11, 23], [2, 9, 11, 23], [1, 9, 11, 23], [4, 8, 11, 23], [3, 8, 11, 23], [2, 8, 11, 23], [1, 8, 11, 23], [4, 5, 11, 23], [3, 5, 11, 23], [4, 9, 10, 23], [3, 9, 10, 23], [1, 9, 10, 23], [4, 8, 10, 23], [3, 8, 10, 23], [1, 8, 10, 23], [4, 7, 10, 23], [3, 7, 10, 23], [4, 5, 10, 23], [3, 5, 10, 23], [4, 9, 13, 22], [3, 9, 13, 22], [2, 9, 13, 22], [1, 9, 13, 22], [4, 8, 13, 22], [3, 8, 13, 22], [2, 8, 13, 22], [1, 8, 13, 22], [4, 7, 13, 22], [3, 7, 13, 22], [2, 7, 13, 22], [1, 7, 13, 22], [4, 5, 13, 22], [3, 5, 13, 22], [2, 5, 13, 22], [4, 8, 11, 22], [3, 8, 11, 22], [2, 8, 11, 22], [1, 8, 11, 22], [3, 5, 11, 22], [3, 9, 10, 22], [3, 8, 10, 22], [1, 8, 10, 22], [3, 7, 10, 22], [3, 5, 10, 22], [4, 8, 14, 21], [3, 8, 14, 21], [2, 8, 14, 21], [1, 8, 14, 21], [3, 5, 14, 21], [4, 8, 13, 21], [3, 8, 13, 21], [2, 8, 13, 21], [1, 8, 13, 21], [4, 7, 13, 21], [3, 7, 13, 21], [2, 7, 13, 21], [1, 7, 13, 21], [3, 5, 13, 21], [2, 5, 13, 21], [4, 8, 11, 21], [3, 8, 11, 21], [2, 8, 11, 21], [1, 8, 11, 21], [3, 5, 11, 21], [4, 8, 10, 21], [3, 8, 10, 21], [1, 8, 10, 21], [3, 7, 10, 21], [3, 5, 10, 21], [3, 9, 14, 20], [3, 8, 14, 20], [1, 8, 14, 20], [3, 7, 14, 20], [3, 5, 14, 20], [3, 9, 13, 20], [2, 9, 13, 20], [3, 8, 13, 20], [2, 8, 13, 20], [1, 8, 13, 20], [3, 7, 13, 20], [2, 7, 13, 20], [1, 7, 13, 20], [3, 5, 13, 20], [2, 5, 13, 20], [3, 9, 11, 20], [3, 8, 11, 20], [2, 8, 11, 20], [1, 8, 11, 20], [3, 5, 11, 20], [3, 9, 10, 20], [3, 8, 10, 20], [1, 8, 10, 20], [3, 7, 10, 20], [3, 5, 10, 20]] := by decide +kernel
theorem tr_p53 (x : Nat → Int) : ba_d4 (x 1 + x 2 + x 3 + x 4) (-x 1) (-x 2) (-x 4) (-x 5) (x 5 + x 7 + x 8 + x 9) (-x 7) (-x 9) (-x 10) (-x 11) (x 10 + x 11 + x 13 + x 14) (-x 14) (-x 20) (-x 21) (-x 22) (x 20 + x 21 + x 22 + x 23) = tr_sumZ x (tr_list 5 3 3125) := by
  rw [tr_l53]
  simp only [tr_sumZ, tr_prodZ, ba_d4, ba_d3, ba_d2]; grobner
theorem tr_l54 : tr_list 5 4 3125 = [[4, 9, 14, 19], [3, 9, 14, 19], [2, 9, 14, 19], [1, 9, 14, 19], [4, 8, 14, 19], [3, 8, 14, 19], [2, 8, 14, 19], [1, 8, 14, 19], [4, 7, 14, 19], [3, 7, 14, 19], [2, 7, 14, 19], [1, 7, 14, 19], [4, 5, 14, 19], [3, 5, 14, 19], [2, 5, 14, 19], [4, 9, 13, 19], [3, 9, 13, 19], [2, 9, 13, 19], [1, 9, 13, 19], [4, 8, 13, 19], [3, 8, 13, 19], [2, 8, 13, 19], [1, 8, 13, 19], [4, 7, 13, 19], [3, 7, 13, 19], [2, 7, 13, 19], [1, 7, 13, 19], [4, 5, 13, 19], [3, 5, 13, 19], [2, 5, 13, 19], [4, 9, 11, 19], [3, 9, 11, 19], [2, 9, 11, 19], [1, 9, 11, 19], [4, 8, 11, 19], [3, 8, 11, 19], [2, 8, 11, 19], [1, 8, 11, 19], [4, 5, 11, 19], [3, 5, 11, 19], [4, 9, 10, 19], [3, 9, 10, 19], [1, 9, 10, 19], [4, 8, 10, 19], [3, 8, 10, 19], [1, 8, 10, 19], [4, 7, 10, 19], [3, 7, 10, 19], [4, 5, 10, 19], [3, 5, 10, 19], [4, 9, 14, 17], [3, 9, 14, 17], [2, 9, 14, 17], [1, 9, 14, 17], [4, 8, 14, 17], [3, 8, 14, 17], [2, 8, 14, 17], [1, 8, 14, 17], [4, 7, 14, 17], [3, 7, 14, 17], [2, 7, 14, 17], [1, 7, 14, 17], [4, 5, 14, 17], [3, 5, 14, 17], [2, 5, 14, 17], [4, 9, 11, 17], [3, 9, 11, 17], [2, 9, 11, 17], [1, 9, 11, 17], [4, 5, 11, 17], [4, 9, 10, 17], [1, 9, 10, 17], [4, 8, 10, 17], [4, 7, 10, 17], [4, 5, 10, 17], [4, 9, 14, 16], [3, 9, 14, 16], [2, 9, 14, 16], [1, 9, 14, 16], [4, 7, 14, 16], [3, 7, 14, 16], [2, 7, 14, 16], [1, 7, 14, 16], [4, 5, 14, 16], [2, 5, 14, 16], [4, 9, 13, 16], [3, 9, 13, 16], [2, 9, 13, 16], [1, 9, 13, 16], [4, 5, 13, 16], [4, 9, 11, 16], [3, 9, 11, 16], [2, 9, 11, 16], [1, 9, 11, 16], [4, 5, 11, 16], [4, 9, 10, 16], [3, 9, 10, 16], [1, 9, 10, 16], [4, 7, 10, 16], [4, 5, 10, 16], [4, 9, 14, 15], [2, 9, 14, 15], [1, 9, 14, 15], [4, 8, 14, 15], [2, 8, 14, 15], [4, 7, 14, 15], [2, 7, 14, 15], [1, 7, 14, 15], [4, 5, 14, 15], [2, 5, 14, 15], [4, 9, 13, 15], [1, 9, 13, 15], [4, 8, 13, 15], [4, 7, 13, 15], [4, 5, 13, 15], [4, 9, 11, 15], [2, 9, 11, 15], [1, 9, 11, 15], [4, 8, 11, 15], [4, 5, 11, 15], [4, 9, 10, 15], [1, 9, 10, 15], [4, 8, 10, 15], [4, 7, 10, 15], [4, 5, 10, 15]] := by decide +kernel
theorem tr_p54 (x : Nat → Int) : ba_d4 (x 1 + x 2 + x 3 + x 4) (-x 1) (-x 2) (-x 3) (-x 5) (x 5 + x 7 + x 8 + x 9) (-x 7) (-x 8) (-x 10) (-x 11) (x 10 + x 11 + x 13 + x 14) (-x 13) (-x 15) (-x 16) (-x 17) (x 15 + x 16 + x 17 + x 19) = tr_sumZ x (tr_list 5 4 3125) := by
  rw [tr_l54]
  simp only [tr_sumZ, tr_prodZ, ba_d4, ba_d3, ba_d2]; grobner
theorem tr_d10 {w : Nat → Nat} (ok : ch_ok 1 w) (hW : ∀ s, s < 1 → s ≠ 0 → ch_W w s ≠ 0) : (tr_sum w 1 0 3125 : Int) = ba_D (ch_N w) [] := by
  rw [tr_sum_list, tr_sum_z, ← tr_p10]
  rfl
theorem tr_d20 {w : Nat → Nat} (ok : ch_ok 2 w) (hW : ∀ s, s < 2 → s ≠ 0 → ch_W w s ≠ 0) : (tr_sum w 2 0 3125 : Int) = ba_D (ch_N w) [1] := by
  rw [tr_sum_list, tr_sum_z, ← tr_p20]
  have h1 := hW 1 (by omega) (by omega)
  have z12 : w 7 = 0 := ok.2.2.2 1 2 (by omega) (by omega) (by omega)
  have z13 : w 8 = 0 := ok.2.2.2 1 3 (by omega) (by omega) (by omega)
  have z14 : w 9 = 0 := ok.2.2.2 1 4 (by omega) (by omega) (by omega)
  have N11 : ch_N w 1 1 = (w 5 : Int) := by
    rw [tr_Nd h1]; simp only [ch_W, Nat.reduceMul, Nat.reduceAdd]; omega
  show _ = ch_N w 1 1
  rw [N11]
theorem tr_d21 {w : Nat → Nat} (ok : ch_ok 2 w) (hW : ∀ s, s < 2 → s ≠ 1 → ch_W w s ≠ 0) : (tr_sum w 2 1 3125 : Int) = ba_D (ch_N w) [0] := by
  rw [tr_sum_list, tr_sum_z, ← tr_p21]
  have h0 := hW 0 (by omega) (by omega)
  have z02 : w 2 = 0 := ok.2.2.2 0 2 (by omega) (by omega) (by omega)
  have z03 : w 3 = 0 := ok.2.2.2 0 3 (by omega) (by omega) (by omega)
  have z04 : w 4 = 0 := ok.2.2.2 0 4 (by omega) (by omega) (by omega)
  have N00 : ch_N w 0 0 = (w 1 : Int) := by
    rw [tr_Nd h0]; simp only [ch_W, Nat.reduceMul, Nat.reduceAdd]; omega
  show _ = ch_N w 0 0
  rw [N00]
theorem tr_d30 {w : Nat → Nat} (ok : ch_ok 3 w) (hW : ∀ s, s < 3 → s ≠ 0 → ch_W w s ≠ 0) : (tr_sum w 3 0 3125 : Int) = ba_D (ch_N w) [1, 2] := by
  rw [tr_sum_list, tr_sum_z, ← tr_p30]
  have h1 := hW 1 (by omega) (by omega)
  have z13 : w 8 = 0 := ok.2.2.2 1 3 (by omega) (by omega) (by omega)
  have z14 : w 9 = 0 := ok.2.2.2 1 4 (by omega) (by omega) (by omega)
  have N11 : ch_N w 1 1 = (w 5 : Int) + (w 7 : Int) := by
    rw [tr_Nd h1]; simp only [ch_W, Nat.reduceMul, Nat.reduceAdd]; omega
  have N12 : ch_N w 1 2 = -(w 7 : Int) := tr_No h1 (by decide)
  have h2 := hW 2 (by omega) (by omega)
  have z23 : w 13 = 0 := ok.2.2.2 2 3 (by omega) (by omega) (by omega)
  have z24 : w 14 = 0 := ok.2.2.2 2 4 (by omega) (by omega) (by omega)
  have N21 : ch_N w 2 1 = -(w 11 : Int) := tr_No h2 (by decide)
  have N22 : ch_N w 2 2 = (w 10 : Int) + (w 11 : Int) := by
    rw [tr_Nd h2]; simp only [ch_W, Nat.reduceMul, Nat.reduceAdd]; omega
  show _ = ba_d2 (ch_N w 1 1) (ch_N w 1 2) (ch_N w 2 1) (ch_N w 2 2)
  rw [N11, N12, N21, N22]
theorem tr_d31 {w : Nat → Nat} (ok : ch_ok 3 w) (hW : ∀ s, s < 3 → s ≠ 1 → ch_W w s ≠ 0) : (tr_sum w 3 1 3125 : Int) = ba_D (ch_N w) [0, 2] := by
  rw [tr_sum_list, tr_sum_z, ← tr_p31]
  have h0 := hW 0 (by omega) (by omega)
  have z03 : w 3 = 0 := ok.2.2.2 0 3 (by omega) (by omega) (by omega)
  have z04 : w 4 = 0 := ok.2.2.2 0 4 (by omega) (by omega) (by omega)
  have N00 : ch_N w 0 0 = (w 1 : Int) + (w 2 : Int) := by
    rw [tr_Nd h0]; simp only [ch_W, Nat.reduceMul, Nat.reduceAdd]; omega
  have N02 : ch_N w 0 2 = -(w 2 : Int) := tr_No h0 (by decide)
  have h2 := hW 2 (by omega) (by omega)
  have z23 : w 13 = 0 := ok.2.2.2 2 3 (by omega) (by omega) (by omega)
  have z24 : w 14 = 0 := ok.2.2.2 2 4 (by omega) (by omega) (by omega)
  have N20 : ch_N w 2 0 = -(w 10 : Int) := tr_No h2 (by decide)
  have N22 : ch_N w 2 2 = (w 10 : Int) + (w 11 : Int) := by
    rw [tr_Nd h2]; simp only [ch_W, Nat.reduceMul, Nat.reduceAdd]; omega
  show _ = ba_d2 (ch_N w 0 0) (ch_N w 0 2) (ch_N w 2 0) (ch_N w 2 2)
  rw [N00, N02, N20, N22]
theorem tr_d32 {w : Nat → Nat} (ok : ch_ok 3 w) (hW : ∀ s, s < 3 → s ≠ 2 → ch_W w s ≠ 0) : (tr_sum w 3 2 3125 : Int) = ba_D (ch_N w) [0, 1] := by
  rw [tr_sum_list, tr_sum_z, ← tr_p32]
  have h0 := hW 0 (by omega) (by omega)
  have z03 : w 3 = 0 := ok.2.2.2 0 3 (by omega) (by omega) (by omega)
  have z04 : w 4 = 0 := ok.2.2.2 0 4 (by omega) (by omega) (by omega)
  have N00 : ch_N w 0 0 = (w 1 : Int) + (w 2 : Int) := by
    rw [tr_Nd h0]; simp only [ch_W, Nat.reduceMul, Nat.reduceAdd]; omega
  have N01 : ch_N w 0 1 = -(w 1 : Int) := tr_No h0 (by decide)
  have h1 := hW 1 (by omega) (by omega)
  have z13 : w 8 = 0 := ok.2.2.2 1 3 (by omega) (by omega) (by omega)
  have z14 : w 9 = 0 := ok.2.2.2 1 4 (by omega) (by omega) (by omega)
  have N10 : ch_N w 1 0 = -(w 5 : Int) := tr_No h1 (by decide)
  have N11 : ch_N w 1 1 = (w 5 : Int) + (w 7 : Int) := by
    rw [tr_Nd h1]; simp only [ch_W, Nat.reduceMul, Nat.reduceAdd]; omega
  show _ = ba_d2 (ch_N w 0 0) (ch_N w 0 1) (ch_N w 1 0) (ch_N w 1 1)
  rw [N00, N01, N10, N11]
theorem tr_d40 {w : Nat → Nat} (ok : ch_ok 4 w) (hW : ∀ s, s < 4 → s ≠ 0 → ch_W w s ≠ 0) : (tr_sum w 4 0 3125 : Int) = ba_D (ch_N w) [1, 2, 3] := by
  rw [tr_sum_list, tr_sum_z, ← tr_p40]
  have h1 := hW 1 (by omega) (by omega)
  have z14 : w 9 = 0 := ok.2.2.2 1 4 (by omega) (by omega) (by omega)
  have N11 : ch_N w 1 1 = (w 5 : Int) + (w 7 : Int) + (w 8 : Int) := by
    rw [tr_Nd h1]; simp only [ch_W, Nat.reduceMul, Nat.reduceAdd]; omega
  have N12 : ch_N w 1 2 = -(w 7 : Int) := tr_No h1 (by decide)
  have N13 : ch_N w 1 3 = -(w 8 : Int) := tr_No h1 (by decide)
  have h2 := hW 2 (by omega) (by omega)
  have z24 : w 14 = 0 := ok.2.2.2 2 4 (by omega) (by omega) (by omega)
  have N21 : ch_N w 2 1 = -(w 11 : Int) := tr_No h2 (by decide)
  have N22 : ch_N w 2 2 = (w 10 : Int) + (w 11 : Int) + (w 13 : Int) := by
    rw [tr_Nd h2]; simp only [ch_W, Nat.reduceMul, Nat.reduceAdd]; omega
  have N23 : ch_N w 2 3 = -(w 13 : Int) := tr_No h2 (by decide)
  have h3 := hW 3 (by omega) (by omega)
  have z34 : w 19 = 0 := ok.2.2.2 3 4 (by omega) (by omega) (by omega)
  have N31 : ch_N w 3 1 = -(w 16 : Int) := tr_No h3 (by decide)
  have N32 : ch_N w 3 2 = -(w 17 : Int) := tr_No h3 (by decide)
  have N33 : ch_N w 3 3 = (w 15 : Int) + (w 16 : Int) + (w 17 : Int) := by
    rw [tr_Nd h3]; simp only [ch_W, Nat.reduceMul, Nat.reduceAdd]; omega
  show _ = ba_d3 (ch_N w 1 1) (ch_N w 1 2) (ch_N w 1 3) (ch_N w 2 1) (ch_N w 2 2) (ch_N w 2 3) (ch_N w 3 1) (ch_N w 3 2) (ch_N w 3 3)
  rw [N11, N12, N13, N21, N22, N23, N31, N32, N33]
theorem tr_d41 {w : Nat → Nat} (ok : ch_ok 4 w) (hW : ∀ s, s < 4 → s ≠ 1 → ch_W w s ≠ 0) : (tr_sum w 4 1 3125 : Int) = ba_D (ch_N w) [0, 2, 3] := by
  rw [tr_sum_list, tr_sum_z, ← tr_p41]
  have h0 := hW 0 (by omega) (by omega)
  have z04 : w 4 = 0 := ok.2.2.2 0 4 (by omega) (by omega) (by omega)
  have N00 : ch_N w 0 0 = (w 1 : Int) + (w 2 : Int) + (w 3 : Int) := by
    rw [tr_Nd h0]; simp only [ch_W, Nat.reduceMul, Nat.reduceAdd]; omega
  have N02 : ch_N w 0 2 = -(w 2 : Int) := tr_No h0 (by decide)
  have N03 : ch_N w 0 3 = -(w 3 : Int) := tr_No h0 (by decide)
  have h2 := hW 2 (by omega) (by omega)
  have z24 : w 14 = 0 := ok.2.2.2 2 4 (by omega) (by omega) (by omega)
  have N20 : ch_N w 2 0 = -(w 10 : Int) := tr_No h2 (by decide)
  have N22 : ch_N w 2 2 = (w 10 : Int) + (w 11 : Int) + (w 13 : Int) := by
    rw [tr_Nd h2]; simp only [ch_W, Nat.reduceMul, Nat.reduceAdd]; omega
  have N23 : ch_N w 2 3 = -(w 13 : Int) := tr_No h2 (by decide)
  have h3 := hW 3 (by omega) (by omega)
  have z34 : w 19 = 0 := ok.2.2.2 3 4 (by omega) (by omega) (by omega)
  have N30 : ch_N w 3 0 = -(w 15 : Int) := tr_No h3 (by decide)
  have N32 : ch_N w 3 2 = -(w 17 : Int) := tr_No h3 (by decide)
  have N33 : ch_N w 3 3 = (w 15 : Int) + (w 16 : Int) + (w 17 : Int) := by
    rw [tr_Nd h3]; simp only [ch_W, Nat.reduceMul, Nat.reduceAdd]; omega
  show _ = ba_d3 (ch_N w 0 0) (ch_N w 0 2) (ch_N w 0 3) (ch_N w 2 0) (ch_N w 2 2) (ch_N w 2 3) (ch_N w 3 0) (ch_N w 3 2) (ch_N w 3 3)
  rw [N00, N02, N03, N20, N22, N23, N30, N32, N33]
theorem tr_d42 {w : Nat → Nat} (ok : ch_ok 4 w) (hW : ∀ s, s < 4 → s ≠ 2 → ch_W w s ≠ 0) : (tr_sum w 4 2 3125 : Int) = ba_D (ch_N w) [0, 1, 3] := by
  rw [tr_sum_list, tr_sum_z, ← tr_p42]
  have h0 := hW 0 (by omega) (by omega)
  have z04 : w 4 = 0 := ok.2.2.2 0 4 (by omega) (by omega) (by omega)
  have N00 : ch_N w 0 0 = (w 1 : Int) + (w 2 : Int) + (w 3 : Int) := by
    rw [tr_Nd h0]; simp only [ch_W, Nat.reduceMul, Nat.reduceAdd]; omega
  have N01 : ch_N w 0 1 = -(w 1 : Int) := tr_No h0 (by decide)
  have N03 : ch_N w 0 3 = -(w 3 : Int) := tr_No h0 (by decide)
  have h1 := hW 1 (by omega) (by omega)
  have z14 : w 9 = 0 := ok.2.2.2 1 4 (by omega) (by omega) (by omega)
  have N10 : ch_N w 1 0 = -(w 5 : Int) := tr_No h1 (by decide)
  have N11 : ch_N w 1 1 = (w 5 : Int) + (w 7 : Int) + (w 8 : Int) := by
    rw [tr_Nd h1]; simp only [ch_W, Nat.reduceMul, Nat.reduceAdd]; omega
  have N13 : ch_N w 1 3 = -(w 8 : Int) := tr_No h1 (by decide)
  have h3 := hW 3 (by omega) (by omega)
  have z34 : w 19 = 0 := ok.2.2.2 3 4 (by omega) (by omega) (by omega)
  have N30 : ch_N w 3 0 = -(w 15 : Int) := tr_No h3 (by decide)
  have N31 : ch_N w 3 1 = -(w 16 : Int) := tr_No h3 (by decide)
  have N33 : ch_N w 3 3 = (w 15 : Int) + (w 16 : Int) + (w 17 : Int) := by
    rw [tr_Nd h3]; simp only [ch_W, Nat.reduceMul, Nat.reduceAdd]; omega
  show _ = ba_d3 (ch_N w 0 0) (ch_N w 0 1) (ch_N w 0 3) (ch_N w 1 0) (ch_N w 1 1) (ch_N w 1 3) (ch_N w 3 0) (ch_N w 3 1) (ch_N w 3 3)
  rw [N00, N01, N03, N10, N11, N13, N30, N31, N33]
theorem tr_d43 {w : Nat → Nat} (ok : ch_ok 4 w) (hW : ∀ s, s < 4 → s ≠ 3 → ch_W w s ≠ 0) : (tr_sum w 4 3 3125 : Int) = ba_D (ch_N w) [0, 1, 2] := by
  rw [tr_sum_list, tr_sum_z, ← tr_p43]
  have h0 := hW 0 (by omega) (by omega)
  have z04 : w 4 = 0 := ok.2.2.2 0 4 (by omega) (by omega) (by omega)
  have N00 : ch_N w 0 0 = (w 1 : Int) + (w 2 : Int) + (w 3 : Int) := by
    rw [tr_Nd h0]; simp only [ch_W, Nat.reduceMul, Nat.reduceAdd]; omega
  have N01 : ch_N w 0 1 = -(w 1 : Int) := tr_No h0 (by decide)
  have N02 : ch_N w 0 2 = -(w 2 : Int) := tr_No h0 (by decide)
  have h1 := hW 1 (by omega) (by omega)
  have z14 : w 9 = 0 := ok.2.2.2 1 4 (by omega) (by omega) (by omega)
  have N10 : ch_N w 1 0 = -(w 5 : Int) := tr_No h1 (by decide)
  have N11 : ch_N w 1 1 = (w 5 : Int) + (w 7 : Int) + (w 8 : Int) := by
    rw [tr_Nd h1]; simp only [ch_W, Nat.reduceMul, Nat.reduceAdd]; omega
  have N12 : ch_N w 1 2 = -(w 7 : Int) := tr_No h1 (by decide)
  have h2 := hW 2 (by omega) (by omega)
  have z24 : w 14 = 0 := ok.2.2.2 2 4 (by omega) (by omega) (by omega)
  have N20 : ch_N w 2 0 = -(w 10 : Int) := tr_No h2 (by decide)
  have N21 : ch_N w 2 1 = -(w 11 : Int) := tr_No h2 (by decide)
  have N22 : ch_N w 2 2 = (w 10 : Int) + (w 11 : Int) + (w 13 : Int) := by
    rw [tr_Nd h2]; simp only [ch_W, Nat.reduceMul, Nat.reduceAdd]; omega
  show _ = ba_d3 (ch_N w 0 0) (ch_N w 0 1) (ch_N w 0 2) (ch_N w 1 0) (ch_N w 1 1) (ch_N w 1 2) (ch_N w 2 0) (ch_N w 2 1) (ch_N w 2 2)
  rw [N00, N01, N02, N10, N11, N12, N20, N21, N22]
theorem tr_d50 {w : Nat → Nat} (ok : ch_ok 5 w) (hW : ∀ s, s < 5 → s ≠ 0 → ch_W w s ≠ 0) : (tr_sum w 5 0 3125 : Int) = ba_D (ch_N w) [1, 2, 3, 4] := by
  rw [tr_sum_list, tr_sum_z, ← tr_p50]
  have h1 := hW 1 (by omega) (by omega)
  have N11 : ch_N w 1 1 = (w 5 : Int) + (w 7 : Int) + (w 8 : Int) + (w 9 : Int) := by
    rw [tr_Nd h1]; simp only [ch_W, Nat.reduceMul, Nat.reduceAdd]; omega
  have N12 : ch_N w 1 2 = -(w 7 : Int) := tr_No h1 (by decide)
  have N13 : ch_N w 1 3 = -(w 8 : Int) := tr_No h1 (by decide)
  have N14 : ch_N w 1 4 = -(w 9 : Int) := tr_No h1 (by decide)
  have h2 := hW 2 (by omega) (by omega)
  have N21 : ch_N w 2 1 = -(w 11 : Int) := tr_No h2 (by decide)
  have N22 : ch_N w 2 2 = (w 10 : Int) + (w 11 : Int) + (w 13 : Int) + (w 14 : Int) := by
    rw [tr_Nd h2]; simp only [ch_W, Nat.reduceMul, Nat.reduceAdd]; omega
  have N23 : ch_N w 2 3 = -(w 13 : Int) := tr_No h2 (by decide)
  have N24 : ch_N w 2 4 = -(w 14 : Int) := tr_No h2 (by decide)
  have h3 := hW 3 (by omega) (by omega)
  have N31 : ch_N w 3 1 = -(w 16 : Int) := tr_No h3 (by decide)
  have N32 : ch_N w 3 2 = -(w 17 : Int) := tr_No h3 (by decide)
  have N33 : ch_N w 3 3 = (w 15 : Int) + (w 16 : Int) + (w 17 : Int) + (w 19 : Int) := by
    rw [tr_Nd h3]; simp only [ch_W, Nat.reduceMul, Nat.reduceAdd]; omega
  have N34 : ch_N w 3 4 = -(w 19 : Int) := tr_No h3 (by decide)
  have h4 := hW 4 (by omega) (by omega)
  have N41 : ch_N w 4 1 = -(w 21 : Int) := tr_No h4 (by decide)
  have N42 : ch_N w 4 2 = -(w 22 : Int) := tr_No h4 (by decide)
  have N43 : ch_N w 4 3 = -(w 23 : Int) := tr_No h4 (by decide)
  have N44 : ch_N w 4 4 = (w 20 : Int) + (w 21 : Int) + (w 22 : Int) + (w 23 : Int) := by
    rw [tr_Nd h4]; simp only [ch_W, Nat.reduceMul, Nat.reduceAdd]; omega
  show _ = ba_d4 (ch_N w 1 1) (ch_N w 1 2) (ch_N w 1 3) (ch_N w 1 4) (ch_N w 2 1) (ch_N w 2 2) (ch_N w 2 3) (ch_N w 2 4) (ch_N w 3 1) (ch_N w 3 2) (ch_N w 3 3) (ch_N w 3 4) (ch_N w 4 1) (ch_N w 4 2) (ch_N w 4 3) (ch_N w 4 4)
  rw [N11, N12, N13, N14, N21, N22, N23, N24, N31, N32, N33, N34, N41, N42, N43, N44]
theorem tr_d51 {w : Nat → Nat} (ok : ch_ok 5 w) (hW : ∀ s, s < 5 → s ≠ 1 → ch_W w s ≠ 0) : (tr_sum w 5 1 3125 : Int) = ba_D (ch_N w) [0, 2, 3, 4] := by
  rw [tr_sum_list, tr_sum_z, ← tr_p51]
  have h0 := hW 0 (by omega) (by omega)
  have N00 : ch_N w 0 0 = (w 1 : Int) + (w 2 : Int) + (w 3 : Int) + (w 4 : Int) := by
    rw [tr_Nd h0]; simp only [ch_W, Nat.reduceMul, Nat.reduceAdd]; omega
  have N02 : ch_N w 0 2 = -(w 2 : Int) := tr_No h0 (by decide)
  have N03 : ch_N w 0 3 = -(w 3 : Int) := tr_No h0 (by decide)
  have N04 : ch_N w 0 4 = -(w 4 : Int) := tr_No h0 (by decide)
  have h2 := hW 2 (by omega) (by omega)
  have N20 : ch_N w 2 0 = -(w 10 : Int) := tr_No h2 (by decide)
  have N22 : ch_N w 2 2 = (w 10 : Int) + (w 11 : Int) + (w 13 : Int) + (w 14 : Int) := by
    rw [tr_Nd h2]; simp only [ch_W, Nat.reduceMul, Nat.reduceAdd]; omega
  have N23 : ch_N w 2 3 = -(w 13 : Int) := tr_No h2 (by decide)
  have N24 : ch_N w 2 4 = -(w 14 : Int) := tr_No h2 (by decide)
  have h3 := hW 3 (by omega) (by omega)
  have N30 : ch_N w 3 0 = -(w 15 : Int) := tr_No h3 (by decide)
  have N32 : ch_N w 3 2 = -(w 17 : Int) := tr_No h3 (by decide)
  have N33 : ch_N w 3 3 = (w 15 : Int) + (w 16 : Int) + (w 17 : Int) + (w 19 : Int) := by
    rw [tr_Nd h3]; simp only [ch_W, Nat.reduceMul, Nat.reduceAdd]; omega
  have N34 : ch_N w 3 4 = -(w 19 : Int) := tr_No h3 (by decide)
  have h4 := hW 4 (by omega) (by omega)
  have N40 : ch_N w 4 0 = -(w 20 : Int) := tr_No h4 (by decide)
  have N42 : ch_N w 4 2 = -(w 22 : Int) := tr_No h4 (by decide)
  have N43 : ch_N w 4 3 = -(w 23 : Int) := tr_No h4 (by decide)
  have N44 : ch_N w 4 4 = (w 20 : Int) + (w 21 : Int) + (w 22 : Int) + (w 23 : Int) := by
    rw [tr_Nd h4]; simp only [ch_W, Nat.reduceMul, Nat.reduceAdd]; omega
  show _ = ba_d4 (ch_N w 0 0) (ch_N w 0 2) (ch_N w 0 3) (ch_N w 0 4) (ch_N w 2 0) (ch_N w 2 2) (ch_N w 2 3) (ch_N w 2 4) (ch_N w 3 0) (ch_N w 3 2) (ch_N w 3 3) (ch_N w 3 4) (ch_N w 4 0) (ch_N w 4 2) (ch_N w 4 3) (ch_N w 4 4)
  rw [N00, N02, N03, N04, N20, N22, N23, N24, N30, N32, N33, N34, N40, N42, N43, N44]
theorem tr_d52 {w : Nat → Nat} (ok : ch_ok 5 w) (hW : ∀ s, s < 5 → s ≠ 2 → ch_W w s ≠ 0) : (tr_sum w 5 2 3125 : Int) = ba_D (ch_N w) [0, 1, 3, 4] := by
  rw [tr_sum_list, tr_sum_z, ← tr_p52]
  have h0 := hW 0 (by omega) (by omega)
  have N00 : ch_N w 0 0 = (w 1 : Int) + (w 2 : Int) + (w 3 : Int) + (w 4 : Int) := by
    rw [tr_Nd h0]; simp only [ch_W, Nat.reduceMul, Nat.reduceAdd]; omega
  have N01 : ch_N w 0 1 = -(w 1 : Int) := tr_No h0 (by decide)
  have N03 : ch_N w 0 3 = -(w 3 : Int) := tr_No h0 (by decide)
  have N04 : ch_N w 0 4 = -(w 4 : Int) := tr_No h0 (by decide)
  have h1 := hW 1 (by omega) (by omega)
  have N10 : ch_N w 1 0 = -(w 5 : Int) := tr_No h1 (by decide)
  have N11 : ch_N w 1 1 = (w 5 : Int) + (w 7 : Int) + (w 8 : Int) + (w 9 : Int) := by
    rw [tr_Nd h1]; simp only [ch_W, Nat.reduceMul, Nat.reduceAdd]; omega
  have N13 : ch_N w 1 3 = -(w 8 : Int) := tr_No h1 (by decide)
  have N14 : ch_N w 1 4 = -(w 9 : Int) := tr_No h1 (by decide)
  have h3 := hW 3 (by omega) (by omega)
  have N30 : ch_N w 3 0 = -(w 15 : Int) := tr_No h3 (by decide)
  have N31 : ch_N w 3 1 = -(w 16 : Int) := tr_No h3 (by decide)
  have N33 : ch_N w 3 3 = (w 15 : Int) + (w 16 : Int) + (w 17 : Int) + (w 19 : Int) := by
    rw [tr_Nd h3]; simp only [ch_W, Nat.reduceMul, Nat.reduceAdd]; omega
  have N34 : ch_N w 3 4 = -(w 19 : Int) := tr_No h3 (by decide)
  have h4 := hW 4 (by omega) (by omega)
  have N40 : ch_N w 4 0 = -(w 20 : Int) := tr_No h4 (by decide)
  have N41 : ch_N w 4 1 = -(w 21 : Int) := tr_No h4 (by decide)
  have N43 : ch_N w 4 3 = -(w 23 : Int) := tr_No h4 (by decide)
  have N44 : ch_N w 4 4 = (w 20 : Int) + (w 21 : Int) + (w 22 : Int) + (w 23 : Int) := by
    rw [tr_Nd h4]; simp only [ch_W, Nat.reduceMul, Nat.reduceAdd]; omega
  show _ = ba_d4 (ch_N w 0 0) (ch_N w 0 1) (ch_N w 0 3) (ch_N w 0 4) (ch_N w 1 0) (ch_N w 1 1) (ch_N w 1 3) (ch_N w 1 4) (ch_N w 3 0) (ch_N w 3 1) (ch_N w 3 3) (ch_N w 3 4) (ch_N w 4 0) (ch_N w 4 1) (ch_N w 4 3) (ch_N w 4 4)
  rw [N00, N01, N03, N04, N10, N11, N13, N14, N30, N31, N33, N34, N40, N41, N43, N44]
theorem tr_d53 {w : Nat → Nat} (ok : ch_ok 5 w) (hW : ∀ s, s < 5 → s ≠ 3 → ch_W w s ≠ 0) : (tr_sum w 5 3 3125 : Int) = ba_D (ch_N w) [0, 1, 2, 4] := by
  rw [tr_sum_list, tr_sum_z, ← tr_p53]
  have h0 := hW 0 (by omega) (by omega)
  have N00 : ch_N w 0 0 = (w 1 : Int) + (w 2 : Int) + (w 3 : Int) + (w 4 : Int) := by
    rw [tr_Nd h0]; simp only [ch_W, Nat.reduceMul, Nat.reduceAdd]; omega
  have N01 : ch_N w 0 1 = -(w 1 : Int) := tr_No h0 (by decide)
  have N02 : ch_N w 0 2 = -(w 2 : Int) := tr_No h0 (by decide)
  have N04 : ch_N w 0 4 = -(w 4 : Int) := tr_No h0 (by decide)
  have h1 := hW 1 (by omega) (by omega)
  have N10 : ch_N w 1 0 = -(w 5 : Int) := tr_No h1 (by decide)
  have N11 : ch_N w 1 1 = (w 5 : Int) + (w 7 : Int) + (w 8 : Int) + (w 9 : Int) := by
    rw [tr_Nd h1]; simp only [ch_W, Nat.reduceMul, Nat.reduceAdd]; omega
  have N12 : ch_N w 1 2 = -(w 7 : Int) := tr_No h1 (by decide)
  have N14 : ch_N w 1 4 = -(w 9 : Int) := tr_No h1 (by decide)
  have h2 := hW 2 (by omega) (by omega)
  have N20 : ch_N w 2 0 = -(w 10 : Int) := tr_No h2 (by decide)
  have N21 : ch_N w 2 1 = -(w 11 : Int) := tr_No h2 (by decide)
  have N22 : ch_N w 2 2 = (w 10 : Int) + (w 11 : Int) + (w 13 : Int) + (w 14 : Int) := by
    rw [tr_Nd h2]; simp only [ch_W, Nat.reduceMul, Nat.reduceAdd]; omega
  have N24 : ch_N w 2 4 = -(w 14 : Int) := tr_No h2 (by decide)
  have h4 := hW 4 (by omega) (by omega)
  have N40 : ch_N w 4 0 = -(w 20 : Int) := tr_No h4 (by decide)
  have N41 : ch_N w 4 1 = -(w 21 : Int) := tr_No h4 (by decide)
  have N42 : ch_N w 4 2 = -(w 22 : Int) := tr_No h4 (by decide)
  have N44 : ch_N w 4 4 = (w 20 : Int) + (w 21 : Int) + (w 22 : Int) + (w 23 : Int) := by
    rw [tr_Nd h4]; simp only [ch_W, Nat.reduceMul, Nat.reduceAdd]; omega
  show _ = ba_d4 (ch_N w 0 0) (ch_N w 0 1) (ch_N w 0 2) (ch_N w 0 4) (ch_N w 1 0) (ch_N w 1 1) (ch_N w 1 2) (ch_N w 1 4) (ch_N w 2 0) (ch_N w 2 1) (ch_N w 2 2) (ch_N w 2 4) (ch_N w 4 0) (ch_N w 4 1) (ch_N w 4 2) (ch_N w 4 4)
  rw [N00, N01, N02, N04, N10, N11, N12, N14, N20, N21, N22, N24, N40, N41, N42, N44]
theorem tr_d54 {w : Nat → Nat} (ok : ch_ok 5 w) (hW : ∀ s, s < 5 → s ≠ 4 → ch_W w s ≠ 0) : (tr_sum w 5 4 3125 : Int) = ba_D (ch_N w) [0, 1, 2, 3] := by
  rw [tr_sum_list, tr_sum_z, ← tr_p54]
  have h0 := hW 0 (by omega) (by omega)
  have N00 : ch_N w 0 0 = (w 1 : Int) + (w 2 : Int) + (w 3 : Int) + (w 4 : Int) := by
    rw [tr_Nd h0]; simp only [ch_W, Nat.reduceMul, Nat.reduceAdd]; omega
  have N01 : ch_N w 0 1 = -(w 1 : Int) := tr_No h0 (by decide)
  have N02 : ch_N w 0 2 = -(w 2 : Int) := tr_No h0 (by decide)
  have N03 : ch_N w 0 3 = -(w 3 : Int) := tr_No h0 (by decide)
  have h1 := hW 1 (by omega) (by omega)
  have N10 : ch_N w 1 0 = -(w 5 : Int) := tr_No h1 (by decide)
  have N11 : ch_N w 1 1 = (w 5 : Int) + (w 7 : Int) + (w 8 : Int) + (w 9 : Int) := by
    rw [tr_Nd h1]; simp only [ch_W, Nat.reduceMul, Nat.reduceAdd]; omega
  have N12 : ch_N w 1 2 = -(w 7 : Int) := tr_No h1 (by decide)
  have N13 : ch_N w 1 3 = -(w 8 : Int) := tr_No h1 (by decide)
  have h2 := hW 2 (by omega) (by omega)
  have N20 : ch_N w 2 0 = -(w 10 : Int) := tr_No h2 (by decide)
  have N21 : ch_N w 2 1 = -(w 11 : Int) := tr_No h2 (by decide)
  have N22 : ch_N w 2 2 = (w 10 : Int) + (w 11 : Int) + (w 13 : Int) + (w 14 : Int) := by
    rw [tr_Nd h2]; simp only [ch_W, Nat.reduceMul, Nat.reduceAdd]; omega
  have N23 : ch_N w 2 3 = -(w 13 : Int) := tr_No h2 (by decide)
  have h3 := hW 3 (by omega) (by omega)
  have N30 : ch_N w 3 0 = -(w 15 : Int) := tr_No h3 (by decide)
  have N31 : ch_N w 3 1 = -(w 16 : Int) := tr_No h3 (by decide)
  have N32 : ch_N w 3 2 = -(w 17 : Int) := tr_No h3 (by decide)
  have N33 : ch_N w 3 3 = (w 15 : Int) + (w 16 : Int) + (w 17 : Int) + (w 19 : Int) := by
    rw [tr_Nd h3]; simp only [ch_W, Nat.reduceMul, Nat.reduceAdd]; omega
  show _ = ba_d4 (ch_N w 0 0) (ch_N w 0 1) (ch_N w 0 2) (ch_N w 0 3) (ch_N w 1 0) (ch_N w 1 1) (ch_N w 1 2) (ch_N w 1 3) (ch_N w 2 0) (ch_N w 2 1) (ch_N w 2 2) (ch_N w 2 3) (ch_N w 3 0) (ch_N w 3 1) (ch_N w 3 2) (ch_N w 3 3)
  rw [N00, N01, N02, N03, N10, N11, N12, N13, N20, N21, N22, N23, N30, N31, N32, N33]
theorem tr_det {n r : Nat} {w : Nat → Nat} (ok : ch_ok n w) (hr : r < n) (hW : ∀ s, s < n → s ≠ r → ch_W w s ≠ 0) : (tr_sum w n r 3125 : Int) = ba_D (ch_N w) (ba_ops (fun s => !(s == r)) n) := by
  have h5 := ok.2.1
  match n, r, hr, h5 with
  | 1, 0, _, _ => exact tr_d10 ok hW
  | 2, 0, _, _ => exact tr_d20 ok hW
  | 2, 1, _, _ => exact tr_d21 ok hW
  | 3, 0, _, _ => exact tr_d30 ok hW
  | 3, 1, _, _ => exact tr_d31 ok hW
  | 3, 2, _, _ => exact tr_d32 ok hW
  | 4, 0, _, _ => exact tr_d40 ok hW
  | 4, 1, _, _ => exact tr_d41 ok hW
  | 4, 2, _, _ => exact tr_d42 ok hW
  | 4, 3, _, _ => exact tr_d43 ok hW
  | 5, 0, _, _ => exact tr_d50 ok hW
  | 5, 1, _, _ => exact tr_d51 ok hW
  | 5, 2, _, _ => exact tr_d52 ok hW
  | 5, 3, _, _ => exact tr_d53 ok hW
  | 5, 4, _, _ => exact tr_d54 ok hW
  | 0, _, hr, _ => omega
  | 1, r + 1, hr, _ => omega
  | 2, r + 2, hr, _ => omega
  | 3, r + 3, hr, _ => omega
  | 4, r + 4, hr, _ => omega
  | 5, r + 5, hr, _ => omega
  | n + 6, _, _, h5 => omega
theorem tr_prod_mem {w : Nat → Nat} : ∀ {l : List Nat}, tr_prod w l ≠ 0 → ∀ k, k ∈ l → 0 < w k := by
  intro l
  induction l with
  | nil => intro _ k h; simp at h
  | cons a l ih =>
    intro h k hk
    unfold tr_prod at h
    have h1 : w a ≠ 0 := fun z => h (by rw [z, Nat.zero_mul])
    have h2 : tr_prod w l ≠ 0 := fun z => h (by rw [z, Nat.mul_zero])
    rcases List.mem_cons.mp hk with e | e
    · rw [e]; omega
    · exact ih h2 k e
theorem tr_fine_of {n r m : Nat} (hn : n ≤ 5) (g : tr_good n r m = true) {s : Nat} (hs : s < n) (ne : s ≠ r) : tr_dig m s < n := by
  unfold tr_good at g
  simp only [Bool.and_eq_true] at g
  have f : tr_fine n r m s = true := by
    rcases (by omega : s = 0 ∨ s = 1 ∨ s = 2 ∨ s = 3 ∨ s = 4) with e | e | e | e | e <;> rw [e]
    · exact g.1.1.1.1.1
    · exact g.1.1.1.1.2
    · exact g.1.1.1.2
    · exact g.1.1.2
    · exact g.1.2
  unfold tr_fine at f
  rw [if_neg (by omega)] at f
  simp only [Bool.and_eq_true, decide_eq_true_eq] at f
  exact f.1
theorem tr_lead {n r m : Nat} {w : Nat → Nat} (hn : n ≤ 5) (g : tr_good n r m = true) (nz : tr_prod w (tr_idx n r m) ≠ 0) :
    ∀ s, s < n → ∃ k, gr_L n (fun i j => 0 < ch_sw w i j) (fun i => i = r) (fun _ => False) k s := by
  have pos : ∀ s, s < n → s ≠ r → 0 < w (5 * s + tr_dig m s) := by
    intro s hs ne
    apply tr_prod_mem nz
    unfold tr_idx
    apply List.mem_map.mpr
    exact ⟨s, List.mem_filter.mpr ⟨List.mem_range.mpr hs, by simp [ne]⟩, rfl⟩
  have it : ∀ t s, s < n → tr_it m r t s = r → ∃ k, gr_L n (fun i j => 0 < ch_sw w i j) (fun i => i = r) (fun _ => False) k s := by
    intro t
    induction t with
    | zero => intro s _ h; exact ⟨0, h⟩
    | succ t ih =>
      intro s hs h
      by_cases e : s = r
      · exact ⟨0, e⟩
      · unfold tr_it at h
        rw [if_neg e] at h
        have d := tr_fine_of hn g hs e
        obtain ⟨k, l⟩ := ih _ d h
        refine ⟨k + 1, .inr ⟨fun z => z, tr_dig m s, d, ?_, l⟩⟩
        have p := pos s hs e
        have W : ch_W w s ≠ 0 := by
          unfold ch_W
          have d5 : tr_dig m s < 5 := by omega
          rcases (by omega : tr_dig m s = 0 ∨ tr_dig m s = 1 ∨ tr_dig m s = 2 ∨ tr_dig m s = 3 ∨ tr_dig m s = 4) with q | q | q | q | q <;> rw [q] at p <;> (try simp only [Nat.add_zero] at p) <;> omega
        show 0 < ch_sw w s (tr_dig m s)
        unfold ch_sw
        rw [if_neg W]
        exact p
  intro s hs
  apply it 5 s hs
  unfold tr_good at g
  simp only [Bool.and_eq_true] at g
  have a := g.2
  unfold tr_leads at a
  rw [List.all_eq_true] at a
  have := a s (List.mem_range.mpr hs)
  simpa using this
theorem tr_zero {n r : Nat} {w : Nat → Nat} (hn : n ≤ 5) {s : Nat} (hs : s < n) (no : ¬ gr_L n (fun i j => 0 < ch_sw w i j) (fun i => i = r) (fun _ => False) (n - 1) s) : ∀ m, tr_sum w n r m = 0 := by
  intro m
  induction m with
  | zero => rfl
  | succ m ih =>
    unfold tr_sum
    rw [ih]
    by_cases g : tr_good n r m = true
    · rw [if_pos g]
      by_cases z : tr_prod w (tr_idx n r m) = 0
      · rw [z]
      · obtain ⟨k, l⟩ := tr_lead hn g z s hs
        exact absurd (gr_L_stab k s hs l) no
    · rw [if_neg g]
