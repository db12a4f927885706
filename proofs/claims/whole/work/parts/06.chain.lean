/-! the weights: w at 5 i + j; steps, totals, the matrix of the equations -/
def ch_W (w : Nat → Nat) (i : Nat) : Nat := w (5 * i) + w (5 * i + 1) + w (5 * i + 2) + w (5 * i + 3) + w (5 * i + 4)
def ch_sw (w : Nat → Nat) (i j : Nat) : Nat := if ch_W w i = 0 then (if i = j then 1 else 0) else w (5 * i + j)
def ch_tot (w : Nat → Nat) (i : Nat) : Nat := if ch_W w i = 0 then 1 else ch_W w i
def ch_N (w : Nat → Nat) (s c : Nat) : Int := (if s = c then (ch_tot w s : Int) else 0) - (ch_sw w s c : Int)
def ch_ok (n : Nat) (w : Nat → Nat) : Prop := 1 ≤ n ∧ n ≤ 5 ∧ (∀ k, k < 25 → w k ≤ 9) ∧ (∀ i j, i < 5 → j < 5 → (n ≤ i ∨ n ≤ j) → w (5 * i + j) = 0)
theorem ch_W_le {n : Nat} {w : Nat → Nat} (ok : ch_ok n w) {i : Nat} (hi : i < 5) : ch_W w i ≤ 45 := by
  have a := ok.2.2.1
  have h0 := a (5 * i) (by omega)
  have h1 := a (5 * i + 1) (by omega)
  have h2 := a (5 * i + 2) (by omega)
  have h3 := a (5 * i + 3) (by omega)
  have h4 := a (5 * i + 4) (by omega)
  unfold ch_W; omega
theorem ch_sw_le {n : Nat} {w : Nat → Nat} (ok : ch_ok n w) {i j : Nat} (hi : i < 5) (hj : j < 5) : ch_sw w i j ≤ 9 := by
  unfold ch_sw
  split
  · split <;> omega
  · exact ok.2.2.1 _ (by omega)
theorem ch_tot_le {n : Nat} {w : Nat → Nat} (ok : ch_ok n w) {i : Nat} (hi : i < 5) : ch_tot w i ≤ 45 := by
  have := ch_W_le ok hi
  unfold ch_tot; split <;> omega
theorem ch_tot_pos (w : Nat → Nat) (i : Nat) : 1 ≤ ch_tot w i := by
  unfold ch_tot; split <;> omega
theorem ch_sum {n : Nat} {w : Nat → Nat} (ok : ch_ok n w) {i : Nat} (hi : i < n) : ba_S (fun j => (ch_sw w i j : Int)) n = (ch_tot w i : Int) := by
  obtain ⟨h1, h5, _, hz⟩ := ok
  by_cases z : ch_W w i = 0
  · rw [ba_S_one hi (fun c _ hc => by simp [ch_sw, z, Ne.symm hc])]
    simp [ch_sw, ch_tot, z]
  · have e : ∀ j, ch_sw w i j = w (5 * i + j) := fun j => by simp [ch_sw, z]
    have t : ch_tot w i = ch_W w i := by simp [ch_tot, z]
    simp only [e, t]
    have i5 : i < 5 := by omega
    have z1 := hz i 1 i5 (by omega)
    have z2 := hz i 2 i5 (by omega)
    have z3 := hz i 3 i5 (by omega)
    have z4 := hz i 4 i5 (by omega)
    unfold ch_W
    rcases (by omega : n = 1 ∨ n = 2 ∨ n = 3 ∨ n = 4 ∨ n = 5) with rfl | rfl | rfl | rfl | rfl
    · have := z1 (by omega); have := z2 (by omega); have := z3 (by omega); have := z4 (by omega)
      simp only [ba_S, Nat.add_zero]; omega
    · have := z2 (by omega); have := z3 (by omega); have := z4 (by omega)
      simp only [ba_S, Nat.add_zero]; omega
    · have := z3 (by omega); have := z4 (by omega)
      simp only [ba_S, Nat.add_zero]; omega
    · have := z4 (by omega)
      simp only [ba_S, Nat.add_zero]; omega
    · simp only [ba_S, Nat.add_zero]; omega
theorem ch_sw_le_tot {n : Nat} {w : Nat → Nat} (ok : ch_ok n w) {i j : Nat} (hi : i < n) (hj : j < n) : ch_sw w i j ≤ ch_tot w i := by
  have a := ba_S_ge1 (f := fun j => (ch_sw w i j : Int)) hj (fun c _ => Int.natCast_nonneg _)
  rw [ch_sum ok hi] at a
  omega
theorem ch_N_off {w : Nat → Nat} {s c : Nat} (h : c ≠ s) : ch_N w s c = -(ch_sw w s c : Int) := by
  unfold ch_N; rw [if_neg (Ne.symm h)]; omega
theorem ch_N_b {n : Nat} {w : Nat → Nat} (ok : ch_ok n w) {s c : Nat} (hs : s < n) (hc : c < n) : (ch_N w s c).natAbs ≤ 45 := by
  have h5 := ok.2.1
  have a := ch_sw_le ok (i := s) (j := c) (by omega) (by omega)
  have b := ch_tot_le ok (i := s) (by omega)
  have d := ch_sw_le_tot ok hs hc
  unfold ch_N
  split <;> omega
/-- a certificate out of ranks -/
def ch_x (U : Nat → Bool) (rk : Nat → Nat) (c : Nat) : Int := if U c = true then (205962976 : Int) - ((46 ^ (5 - rk c) : Nat) : Int) else 0
theorem ch_pw {a b : Nat} (h : a < b) (hb : b ≤ 5) : 46 * 46 ^ (5 - b) ≤ 46 ^ (5 - a) := by
  have e : 46 * 46 ^ (5 - b) = 46 ^ (5 - b + 1) := by rw [Nat.pow_succ]; omega
  rw [e]
  exact Nat.pow_le_pow_right (by omega) (by omega)
theorem ch_pw5 {b : Nat} (h : 0 < b) (hb : b ≤ 5) : 46 * 46 ^ (5 - b) ≤ 205962976 := ch_pw (a := 0) h hb
theorem ch_cert {n : Nat} {w : Nat → Nat} (ok : ch_ok n w) {U : Nat → Bool} {rk : Nat → Nat} (hr : ∀ s, s < n → U s = true → 1 ≤ rk s ∧ rk s ≤ 5)
    (hs : ∀ s, s < n → U s = true → ∃ c, c < n ∧ 0 < ch_sw w s c ∧ (U c = true → rk c < rk s)) (s : Nat) (hn : s < n) (us : U s = true) : 0 < ba_S (fun c => (if U c = true then ch_x U rk c else 0) * ch_N w s c) n := by
  have h5 := ok.2.1
  have e : ba_S (fun c => (if U c = true then ch_x U rk c else 0) * ch_N w s c) n = ba_S (fun c => (ch_sw w s c : Int) * (ch_x U rk s - ch_x U rk c)) n := by
    have e1 : ba_S (fun c => (if U c = true then ch_x U rk c else 0) * ch_N w s c) n = ba_S (fun c => (if c = s then ch_x U rk s * (ch_tot w s : Int) else 0) + (-1) * (ch_x U rk c * (ch_sw w s c : Int))) n := by
      apply ba_S_congr
      intro c _
      have ex : (if U c = true then ch_x U rk c else 0) = ch_x U rk c := by
        unfold ch_x; split <;> simp_all
      rw [ex]
      unfold ch_N
      by_cases q : c = s
      · subst q; simp only [if_true]; grind
      · rw [if_neg (Ne.symm q), if_neg q]; grind
    have e2 : ba_S (fun c => (ch_sw w s c : Int) * (ch_x U rk s - ch_x U rk c)) n = ba_S (fun c => ch_x U rk s * (ch_sw w s c : Int) + (-1) * (ch_x U rk c * (ch_sw w s c : Int))) n := by
      apply ba_S_congr
      intro c _
      grind
    rw [e1, e2, ba_S_add, ba_S_add, ba_S_mul (ch_x U rk s), ch_sum ok hn, ba_S_one hn (fun c _ hc => by simp [hc]), if_pos rfl]
  rw [e]
  obtain ⟨r1, r5⟩ := hr s hn us
  generalize hq : 46 ^ (5 - rk s) = q at *
  have q1 : 1 ≤ q := by rw [← hq]; exact Nat.pow_pos (by omega)
  have q5 : 46 * q ≤ 205962976 := by rw [← hq]; exact ch_pw5 r1 r5
  have xs : ch_x U rk s = 205962976 - (q : Int) := by
    unfold ch_x; rw [if_pos us, hq]
  have lo : ∀ c, -(q : Int) ≤ ch_x U rk s - ch_x U rk c := by
    intro c
    rw [xs]
    unfold ch_x
    split
    · have : 1 ≤ 46 ^ (5 - rk c) := Nat.pow_pos (by omega)
      omega
    · omega
  have lo2 : ∀ c, c < n → 0 ≤ (ch_sw w s c : Int) * (ch_x U rk s - ch_x U rk c) + 9 * (q : Int) := by
    intro c hc
    have a := ch_sw_le ok (i := s) (j := c) (by omega) (by omega)
    have b : 0 ≤ (ch_sw w s c : Int) * (ch_x U rk s - ch_x U rk c + (q : Int)) := Int.mul_nonneg (by omega) (by have := lo c; omega)
    have d : (ch_sw w s c : Int) * (q : Int) ≤ 9 * (q : Int) := Int.mul_le_mul_of_nonneg_right (by omega) (by omega)
    rw [Int.mul_add] at b
    omega
  obtain ⟨c, hc, sc, lt⟩ := hs s hn us
  have hi : 45 * (q : Int) ≤ ch_x U rk s - ch_x U rk c := by
    rw [xs]
    by_cases uc : U c = true
    · have a := ch_pw (lt uc) r5
      rw [hq] at a
      unfold ch_x
      rw [if_pos uc]
      omega
    · unfold ch_x
      rw [if_neg uc]
      omega
  have hi2 : 54 * (q : Int) ≤ (ch_sw w s c : Int) * (ch_x U rk s - ch_x U rk c) + 9 * (q : Int) := by
    have b : 0 ≤ ((ch_sw w s c : Int) - 1) * (ch_x U rk s - ch_x U rk c) := Int.mul_nonneg (by omega) (by omega)
    rw [Int.sub_mul, Int.one_mul] at b
    omega
  have g := ba_S_ge1 (f := fun c => (ch_sw w s c : Int) * (ch_x U rk s - ch_x U rk c) + 9 * (q : Int)) hc lo2
  rw [ba_S_add] at g
  have k : ∀ m, ba_S (fun _ => 9 * (q : Int)) m = (m : Int) * (9 * (q : Int)) := by
    intro m
    induction m with
    | zero => simp [ba_S]
    | succ m ih => simp only [ba_S]; rw [ih]; grind
  rw [k n] at g
  have l : (n : Int) * (9 * (q : Int)) ≤ 5 * (9 * (q : Int)) := Int.mul_le_mul_of_nonneg_right (by omega) (by omega)
  omega
/-- the unknown states of a system that can be solved -/
def sv_ok (n : Nat) (w : Nat → Nat) (U : Nat → Bool) : Prop :=
  ∃ g, ∀ k, k ≤ n → ba_T n U (ch_N w) g k (ba_F (ch_N w) (ba_ops U k)) (ba_D (ch_N w) (ba_ops U k))
theorem sv_mk {n : Nat} {w : Nat → Nat} (ok : ch_ok n w) {U : Nat → Bool} {z : Nat} (hz : z < n) (uz : U z = false) {rk : Nat → Nat} (hr : ∀ s, s < n → U s = true → 1 ≤ rk s ∧ rk s ≤ 5)
    (hs : ∀ s, s < n → U s = true → ∃ c, c < n ∧ 0 < ch_sw w s c ∧ (U c = true → rk c < rk s)) : sv_ok n w U := by
  refine ⟨_, ba_tower (x := ch_x U rk) ok.2.1 hz uz ?_ ?_ (ch_cert ok hr hs)⟩
  · intro s _ _ c _ _ hc
    rw [ch_N_off hc]; omega
  · intro c hc uc
    obtain ⟨r1, r5⟩ := hr c hc uc
    have := ch_pw5 r1 r5
    unfold ch_x
    rw [if_pos uc]
    have : 1 ≤ 46 ^ (5 - rk c) := Nat.pow_pos (by omega)
    omega
def sv_F (n : Nat) (w : Nat → Nat) (U : Nat → Bool) (s : Nat) (v : Nat → Int) : Int := ba_F (ch_N w) (ba_ops U n) s v
def sv_D (n : Nat) (w : Nat → Nat) (U : Nat → Bool) : Int := ba_D (ch_N w) (ba_ops U n)
theorem sv_pos {n : Nat} {w : Nat → Nat} {U : Nat → Bool} (h : sv_ok n w U) : 0 < sv_D n w U := by
  obtain ⟨g, h⟩ := h
  exact (h n (Nat.le_refl n)).1
theorem sv_nonneg {n : Nat} {w : Nat → Nat} {U : Nat → Bool} (h : sv_ok n w U) {s : Nat} (hs : s < n) (us : U s = true) {v : Nat → Int} (hv : ∀ t, t < n → U t = true → 0 ≤ v t) : 0 ≤ sv_F n w U s v := by
  obtain ⟨g, h⟩ := h
  exact (h n (Nat.le_refl n)).2.2.2.2.2.2.2.1 s hs us v hv
theorem sv_congr {n : Nat} {w : Nat → Nat} {U : Nat → Bool} (h : sv_ok n w U) {s : Nat} (hs : s < n) (us : U s = true) {v u : Nat → Int} (hv : ∀ t, t < n → U t = true → v t = u t) : sv_F n w U s v = sv_F n w U s u := by
  obtain ⟨g, h⟩ := h
  exact (h n (Nat.le_refl n)).2.2.1 s hs us v u hv
theorem sv_lin {n : Nat} {w : Nat → Nat} {U : Nat → Bool} (h : sv_ok n w U) {s : Nat} (hs : s < n) (us : U s = true) (v u : Nat → Int) (b : Int) : sv_F n w U s (fun t => v t + b * u t) = sv_F n w U s v + b * sv_F n w U s u := by
  obtain ⟨g, h⟩ := h
  exact (h n (Nat.le_refl n)).2.1 s hs us v u b
theorem sv_mul {n : Nat} {w : Nat → Nat} {U : Nat → Bool} (h : sv_ok n w U) {s : Nat} (hs : s < n) (us : U s = true) (u : Nat → Int) (b : Int) : sv_F n w U s (fun t => b * u t) = b * sv_F n w U s u := by
  have e := sv_lin h hs us (fun _ => 0) u b
  rw [show sv_F n w U s (fun _ => 0) = 0 from ba_lin0 (fun v u b => sv_lin h hs us v u b)] at e
  simpa using e
theorem sv_sol {n : Nat} {w : Nat → Nat} {U : Nat → Bool} (h : sv_ok n w U) {s : Nat} (hs : s < n) (us : U s = true) (v : Nat → Int) : sv_D n w U * v s = ba_S (fun c => (if U c = true then ch_N w s c else 0) * sv_F n w U c v) n := by
  obtain ⟨g, h⟩ := h
  have e := (h n (Nat.le_refl n)).2.2.2.2.2.2.2.2 s hs us v
  rw [if_pos hs, Int.add_zero] at e
  unfold sv_D
  rw [e]
  apply ba_S_congr
  intro c hc
  simp only [hc, true_and, sv_F]
theorem sv_uniq {n : Nat} {w : Nat → Nat} {U : Nat → Bool} (h : sv_ok n w U) (v y : Nat → Int) (K : Int)
    (hy : ∀ s, s < n → U s = true → ba_S (fun c => (if U c = true then ch_N w s c else 0) * y c) n = K * v s) {s : Nat} (hs : s < n) (us : U s = true) : y s * sv_D n w U = K * sv_F n w U s v := by
  rw [← sv_mul h hs us v K]
  rw [sv_congr h hs us (v := fun t => K * v t) (u := fun t => ba_S (fun c => (if U c = true then y c else 0) * ch_N w t c) n) ?_]
  · rw [show sv_F n w U s (fun t => ba_S (fun c => (if U c = true then y c else 0) * ch_N w t c) n) = ba_S (fun c => (if U c = true then y c else 0) * sv_F n w U s (fun t => ch_N w t c)) n from ba_linS (F := fun v => sv_F n w U s v) (fun v u b => sv_lin h hs us v u b) (fun c => if U c = true then y c else 0) (ch_N w) n]
    obtain ⟨g, h⟩ := h
    have f := (h n (Nat.le_refl n)).2.2.2.1 s hs us
    rw [ba_S_one hs ?_]
    · rw [if_pos us]
      have := f s hs us
      rw [if_pos rfl] at this
      unfold sv_F sv_D
      rw [this]
    · intro c hc ne
      by_cases uc : U c = true
      · have := f c hc uc
        rw [if_neg (Ne.symm ne)] at this
        unfold sv_F
        rw [this]; simp
      · simp [uc]
  · intro t ht ut
    rw [← hy t ht ut]
    apply ba_S_congr
    intro c _
    by_cases uc : U c = true
    · simp only [uc, if_true]; rw [Int.mul_comm]
    · simp [uc]
