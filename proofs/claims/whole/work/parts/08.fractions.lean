/-! longs as whole numbers -/
theorem lz_in {z : Int} (h : z.natAbs < 9223372036854775808) : Int64.minValue.toInt ≤ z ∧ z ≤ Int64.maxValue.toInt := by
  have a : Int64.minValue.toInt = -9223372036854775808 := rfl
  have b : Int64.maxValue.toInt = 9223372036854775807 := rfl
  omega
theorem lz_div {a b : Int} (ha : a.natAbs < 9223372036854775808) (hb : b.natAbs < 9223372036854775808) : Int64.ofInt a / Int64.ofInt b = Int64.ofInt (a.tdiv b) :=
  (Int64.ofInt_tdiv (lz_in ha).1 (lz_in ha).2 (lz_in hb).1 (lz_in hb).2).symm
theorem lz_lt {a b : Int} (ha : a.natAbs < 9223372036854775808) (hb : b.natAbs < 9223372036854775808) : Int64.ofInt a < Int64.ofInt b ↔ a < b :=
  Int64.ofInt_lt_iff_lt (lz_in ha).1 (lz_in ha).2 (lz_in hb).1 (lz_in hb).2
theorem lz_le {a b : Int} (ha : a.natAbs < 9223372036854775808) (hb : b.natAbs < 9223372036854775808) : Int64.ofInt a ≤ Int64.ofInt b ↔ a ≤ b :=
  Int64.ofInt_le_iff_le (lz_in ha).1 (lz_in ha).2 (lz_in hb).1 (lz_in hb).2
theorem lz_toInt {a : Int} (ha : a.natAbs < 9223372036854775808) : (Int64.ofInt a).toInt = a := by
  apply Int64.toInt_ofInt_of_le <;> omega
theorem lz_eq {a b : Int} (ha : a.natAbs < 9223372036854775808) (hb : b.natAbs < 9223372036854775808) : Int64.ofInt a = Int64.ofInt b ↔ a = b := by
  constructor
  · intro h
    have := congrArg Int64.toInt h
    rwa [lz_toInt ha, lz_toInt hb] at this
  · intro h; rw [h]
theorem lz_0 : (0 : Int64) = Int64.ofInt 0 := rfl
theorem lz_1 : (1 : Int64) = Int64.ofInt 1 := rfl
theorem lz_eq0 {a : Int} (ha : a.natAbs < 9223372036854775808) : Int64.ofInt a = 0 ↔ a = 0 := by
  rw [lz_0]; exact lz_eq ha (by decide)
theorem lz_nat (n : Nat) : lN n = Int64.ofInt (n : Int) := Int64.ofInt_eq_ofNat.symm
theorem lz_exact {a d q : Int} (hd : d ≠ 0) (h : a = d * q) (ha : a.natAbs < 9223372036854775808) (hb : d.natAbs < 9223372036854775808) : Int64.ofInt a / Int64.ofInt d = Int64.ofInt q := by
  rw [lz_div ha hb, h, Int.mul_tdiv_cancel_left _ hd]
/-! fractions in lowest terms -/
theorem fr_ex (p : Int) {q : Int} (hq : 0 < q) : ∃ m : Int, 0 < m ∧ p = (Rat.divInt p q).num * m ∧ q = ((Rat.divInt p q).den : Int) * m := by
  obtain ⟨m, hm, h1, h2⟩ := Rat.divInt_num_den (n := p) (d := q) (n' := (Rat.divInt p q).num) (d' := (Rat.divInt p q).den) (z' := (Rat.divInt p q).den_nz) (c := (Rat.divInt p q).reduced) (by omega) rfl
  refine ⟨m, ?_, h1, h2⟩
  have d0 : 0 < ((Rat.divInt p q).den : Int) := by have := (Rat.divInt p q).den_pos; omega
  rw [h2] at hq
  exact Int.pos_of_mul_pos_right hq d0
theorem fr_den_pos (p q : Int) : 0 < ((Rat.divInt p q).den : Int) := by have := (Rat.divInt p q).den_pos; omega
theorem fr_le (p : Int) {q : Int} (hq : 0 < q) : (Rat.divInt p q).num.natAbs ≤ p.natAbs ∧ ((Rat.divInt p q).den : Int) ≤ q := by
  obtain ⟨m, hm, h1, h2⟩ := fr_ex p hq
  have d0 := fr_den_pos p q
  constructor
  · have : p.natAbs = (Rat.divInt p q).num.natAbs * m.natAbs := by rw [← Int.natAbs_mul, ← h1]
    rw [this]
    exact Nat.le_mul_of_pos_right _ (by omega)
  · have : ((Rat.divInt p q).den : Int) * 1 ≤ ((Rat.divInt p q).den : Int) * m := Int.mul_le_mul_of_nonneg_left (by omega) (by omega)
    omega
theorem fr_eq {p q p' q' : Int} (hq : 0 < q) (hq' : 0 < q') (h : p * q' = p' * q) : Rat.divInt p q = Rat.divInt p' q' :=
  (Rat.divInt_eq_divInt_iff (by omega) (by omega)).mpr h
theorem fr_cross {p q p' q' : Int} (hq : 0 < q) (hq' : 0 < q') (h : Rat.divInt p q = Rat.divInt p' q') : p * q' = p' * q :=
  (Rat.divInt_eq_divInt_iff (by omega) (by omega)).mp h
theorem fr_pair (p : Int) {q : Int} (hq : 0 < q) : p.tdiv (Int.gcd p q : Int) = (Rat.divInt p q).num ∧ q.tdiv (Int.gcd p q : Int) = ((Rat.divInt p q).den : Int) := by
  obtain ⟨m, hm, h1, h2⟩ := fr_ex p hq
  generalize Rat.divInt p q = x at *
  subst h1 h2
  have g : (Int.gcd (x.num * m) ((x.den : Int) * m) : Int) = m := by
    have e : Int.gcd (x.num * m) ((x.den : Int) * m) = m.natAbs := by
      rw [Int.gcd_mul_right]
      have : Int.gcd x.num (x.den : Int) = 1 := x.reduced
      rw [this, Nat.one_mul]
    omega
  rw [g]
  exact ⟨Int.mul_tdiv_cancel _ (by omega), Int.mul_tdiv_cancel _ (by omega)⟩
/-- crosswise cancelling, then multiplying -/
theorem fr_mul {x y u v : Int} (hy : 0 < y) (hv : 0 < v) :
    Rat.divInt (x.tdiv (Int.gcd x v : Int) * u.tdiv (Int.gcd u y : Int)) (y.tdiv (Int.gcd u y : Int) * v.tdiv (Int.gcd x v : Int)) = Rat.divInt (x * u) (y * v) ∧
    0 < y.tdiv (Int.gcd u y : Int) * v.tdiv (Int.gcd x v : Int) ∧
    (x.tdiv (Int.gcd x v : Int) * u.tdiv (Int.gcd u y : Int)).natAbs ≤ (x * u).natAbs ∧
    y.tdiv (Int.gcd u y : Int) * v.tdiv (Int.gcd x v : Int) ≤ y * v := by
  have d0 : 0 < (Int.gcd x v : Int) := by
    have := Int.gcd_pos_of_ne_zero_right (a := x) (b := v) (by omega); omega
  have e0 : 0 < (Int.gcd u y : Int) := by
    have := Int.gcd_pos_of_ne_zero_right (a := u) (b := y) (by omega); omega
  obtain ⟨x', hx⟩ := Int.gcd_dvd_left (a := x) (b := v)
  obtain ⟨v', hv'⟩ := Int.gcd_dvd_right (a := x) (b := v)
  obtain ⟨u', hu⟩ := Int.gcd_dvd_left (a := u) (b := y)
  obtain ⟨y', hy'⟩ := Int.gcd_dvd_right (a := u) (b := y)
  generalize (Int.gcd x v : Int) = d at *
  generalize (Int.gcd u y : Int) = e at *
  subst hx hv' hu hy'
  rw [Int.mul_tdiv_cancel_left _ (by omega), Int.mul_tdiv_cancel_left _ (by omega), Int.mul_tdiv_cancel_left _ (by omega), Int.mul_tdiv_cancel_left _ (by omega)]
  have y0 := Int.pos_of_mul_pos_right hy e0
  have v0 := Int.pos_of_mul_pos_right hv d0
  have q0 := Int.mul_pos y0 v0
  have k0 : 1 ≤ d * e := Int.mul_pos d0 e0
  have e1 : d * x' * (e * u') = (d * e) * (x' * u') := by grind
  have e2 : e * y' * (d * v') = (d * e) * (y' * v') := by grind
  rw [e1, e2]
  refine ⟨(Rat.divInt_mul_left (by omega)).symm, q0, ?_, ?_⟩
  · rw [Int.natAbs_mul (d * e)]
    exact Nat.le_mul_of_pos_left _ (by omega)
  · have := Int.mul_le_mul_of_nonneg_right k0 (Int.le_of_lt q0)
    omega
/-- when both are in lowest terms, so is the product: no number on the way is larger than the answer -/
theorem fr_mulR {x y u v : Int} (hy : 0 < y) (hv : 0 < v) (c1 : Int.gcd x y = 1) (c2 : Int.gcd u v = 1) :
    x.tdiv (Int.gcd x v : Int) * u.tdiv (Int.gcd u y : Int) = (Rat.divInt (x * u) (y * v)).num ∧ y.tdiv (Int.gcd u y : Int) * v.tdiv (Int.gcd x v : Int) = ((Rat.divInt (x * u) (y * v)).den : Int) := by
  obtain ⟨h1, h2, _, _⟩ := fr_mul (x := x) (u := u) hy hv
  have d0 : 0 < Int.gcd x v := Int.gcd_pos_of_ne_zero_right (a := x) (b := v) (by omega)
  have e0 : 0 < Int.gcd u y := Int.gcd_pos_of_ne_zero_right (a := u) (b := y) (by omega)
  obtain ⟨x', hx⟩ := Int.gcd_dvd_left (a := x) (b := v)
  obtain ⟨v', hv'⟩ := Int.gcd_dvd_right (a := x) (b := v)
  obtain ⟨u', hu⟩ := Int.gcd_dvd_left (a := u) (b := y)
  obtain ⟨y', hy'⟩ := Int.gcd_dvd_right (a := u) (b := y)
  have tx : x.tdiv (Int.gcd x v : Int) = x' := by conv => lhs; arg 1; rw [hx]
                                                  exact Int.mul_tdiv_cancel_left _ (by omega)
  have tv : v.tdiv (Int.gcd x v : Int) = v' := by conv => lhs; arg 1; rw [hv']
                                                  exact Int.mul_tdiv_cancel_left _ (by omega)
  have tu : u.tdiv (Int.gcd u y : Int) = u' := by conv => lhs; arg 1; rw [hu]
                                                  exact Int.mul_tdiv_cancel_left _ (by omega)
  have ty : y.tdiv (Int.gcd u y : Int) = y' := by conv => lhs; arg 1; rw [hy']
                                                  exact Int.mul_tdiv_cancel_left _ (by omega)
  rw [tx, tv, tu, ty] at h1
  rw [tv, ty] at h2
  rw [tx, tu, tv, ty, ← h1]
  have cxv : Int.gcd x' v' = 1 := by
    have g : Int.gcd x v = Int.gcd ((Int.gcd x v : Int) * x') ((Int.gcd x v : Int) * v') := by rw [← hx, ← hv']
    rw [Int.gcd_mul_left] at g
    simp only [Int.natAbs_natCast] at g
    have : Int.gcd x v * 1 = Int.gcd x v * Int.gcd x' v' := by omega
    exact (Nat.eq_of_mul_eq_mul_left d0 this).symm
  have cuy : Int.gcd u' y' = 1 := by
    have g : Int.gcd u y = Int.gcd ((Int.gcd u y : Int) * u') ((Int.gcd u y : Int) * y') := by rw [← hu, ← hy']
    rw [Int.gcd_mul_left] at g
    simp only [Int.natAbs_natCast] at g
    have : Int.gcd u y * 1 = Int.gcd u y * Int.gcd u' y' := by omega
    exact (Nat.eq_of_mul_eq_mul_left e0 this).symm
  have dv : ∀ {a b c d : Int}, Int.gcd (a * b) (c * d) = 1 → Int.gcd b d = 1 := by
    intro a b c d h
    have h1 : Int.gcd b d ∣ Int.gcd (a * b) (c * d) := by
      apply Int.dvd_gcd
      · exact Int.dvd_trans (Int.gcd_dvd_left _ _) (Int.dvd_mul_left _ _)
      · exact Int.dvd_trans (Int.gcd_dvd_right _ _) (Int.dvd_mul_left _ _)
    rw [h] at h1
    exact Nat.dvd_one.mp h1
  have cxy : Int.gcd x' y' = 1 := by
    rw [hx, hy'] at c1
    exact dv c1
  have cuv : Int.gcd u' v' = 1 := by
    rw [hu, hv'] at c2
    exact dv c2
  have co : Int.gcd (x' * u') (y' * v') = 1 := by
    have a1 : Nat.Coprime x'.natAbs y'.natAbs := cxy
    have a2 : Nat.Coprime x'.natAbs v'.natAbs := cxv
    have a3 : Nat.Coprime u'.natAbs y'.natAbs := cuy
    have a4 : Nat.Coprime u'.natAbs v'.natAbs := cuv
    show Nat.gcd (x' * u').natAbs (y' * v').natAbs = 1
    rw [Int.natAbs_mul, Int.natAbs_mul]
    exact Nat.Coprime.mul_left (Nat.Coprime.mul_right a1 a2) (Nat.Coprime.mul_right a3 a4)
  have f := fr_pair (x' * u') h2
  rw [co] at f
  simp only [Int.natCast_one, Int.tdiv_one] at f
  exact f
/-- adding over the least common denominator -/
theorem fr_add {x y u v : Int} (hy : 0 < y) (hv : 0 < v) :
    Rat.divInt (x * v.tdiv (Int.gcd y v : Int) + u * y.tdiv (Int.gcd y v : Int)) (y.tdiv (Int.gcd y v : Int) * v) = Rat.divInt (x * v + u * y) (y * v) ∧
    0 < y.tdiv (Int.gcd y v : Int) * v ∧ y.tdiv (Int.gcd y v : Int) * v ≤ y * v ∧
    (x * v.tdiv (Int.gcd y v : Int)).natAbs ≤ (x * v).natAbs ∧ (u * y.tdiv (Int.gcd y v : Int)).natAbs ≤ (u * y).natAbs := by
  have d0 : 0 < (Int.gcd y v : Int) := by
    have := Int.gcd_pos_of_ne_zero_right (a := y) (b := v) (by omega); omega
  obtain ⟨y', hy'⟩ := Int.gcd_dvd_left (a := y) (b := v)
  obtain ⟨v', hv'⟩ := Int.gcd_dvd_right (a := y) (b := v)
  generalize (Int.gcd y v : Int) = d at *
  subst hy' hv'
  rw [Int.mul_tdiv_cancel_left _ (by omega), Int.mul_tdiv_cancel_left _ (by omega)]
  have y0 := Int.pos_of_mul_pos_right hy d0
  have v0 := Int.pos_of_mul_pos_right hv d0
  have q0 : 0 < y' * (d * v') := Int.mul_pos y0 hv
  have e1 : x * (d * v') + u * (d * y') = d * (x * v' + u * y') := by grind
  have e2 : d * y' * (d * v') = d * (y' * (d * v')) := by grind
  have e3 : x * (d * v') = d * (x * v') := by grind
  have e4 : u * (d * y') = d * (u * y') := by grind
  refine ⟨?_, q0, ?_, ?_, ?_⟩
  · rw [e1, e2]; exact (Rat.divInt_mul_left (by omega)).symm
  · rw [e2]
    have := Int.mul_le_mul_of_nonneg_right (show (1 : Int) ≤ d by omega) (Int.le_of_lt q0)
    omega
  · rw [e3, Int.natAbs_mul d]; exact Nat.le_mul_of_pos_left _ (by omega)
  · rw [e4, Int.natAbs_mul d]; exact Nat.le_mul_of_pos_left _ (by omega)
/-- two fractions over one denominator V: nothing on the way is larger than what stands over V -/
theorem fr_addV (p1 p2 : Int) {V : Int} (hV : 0 < V) {x y u v : Int} (hx : x = (Rat.divInt p1 V).num) (hy : y = ((Rat.divInt p1 V).den : Int)) (hu : u = (Rat.divInt p2 V).num) (hv : v = ((Rat.divInt p2 V).den : Int)) :
    Rat.divInt (x * v.tdiv (Int.gcd y v : Int) + u * y.tdiv (Int.gcd y v : Int)) (y.tdiv (Int.gcd y v : Int) * v) = Rat.divInt (p1 + p2) V ∧
    0 < y.tdiv (Int.gcd y v : Int) * v ∧ y.tdiv (Int.gcd y v : Int) * v ≤ V ∧
    (x * v.tdiv (Int.gcd y v : Int)).natAbs ≤ p1.natAbs ∧ (u * y.tdiv (Int.gcd y v : Int)).natAbs ≤ p2.natAbs := by
  have y0 : 0 < y := hy ▸ fr_den_pos p1 V
  have v0 : 0 < v := hv ▸ fr_den_pos p2 V
  obtain ⟨a1, a2, a3, a4, a5⟩ := fr_add (x := x) (u := u) y0 v0
  obtain ⟨m1, h1, e1, f1⟩ := fr_ex p1 hV
  obtain ⟨m2, h2, e2, f2⟩ := fr_ex p2 hV
  rw [← hx] at e1
  rw [← hy] at f1
  rw [← hu] at e2
  rw [← hv] at f2
  have eq : Rat.divInt (x * v + u * y) (y * v) = Rat.divInt (p1 + p2) V := by
    apply fr_eq (Int.mul_pos y0 v0) hV
    rw [e1, e2]
    have g1 : x * v * V = x * m1 * (y * v) := by rw [f1]; grind
    have g2 : u * y * V = u * m2 * (y * v) := by rw [f2]; grind
    rw [Int.add_mul, Int.add_mul, g1, g2]
  rw [eq] at a1
  have d0 : 0 < Int.gcd y v := Int.gcd_pos_of_ne_zero_right (a := y) (b := v) (by omega)
  obtain ⟨y', hy'⟩ := Int.gcd_dvd_left (a := y) (b := v)
  obtain ⟨v', hv'⟩ := Int.gcd_dvd_right (a := y) (b := v)
  have ty : y.tdiv (Int.gcd y v : Int) = y' := by conv => lhs; arg 1; rw [hy']
                                                  exact Int.mul_tdiv_cancel_left _ (by omega)
  have tv : v.tdiv (Int.gcd y v : Int) = v' := by conv => lhs; arg 1; rw [hv']
                                                  exact Int.mul_tdiv_cancel_left _ (by omega)
  have co : Int.gcd y' v' = 1 := by
    have g : Int.gcd y v = Int.gcd ((Int.gcd y v : Int) * y') ((Int.gcd y v : Int) * v') := by rw [← hy', ← hv']
    rw [Int.gcd_mul_left] at g
    simp only [Int.natAbs_natCast] at g
    have : Int.gcd y v * 1 = Int.gcd y v * Int.gcd y' v' := by omega
    exact (Nat.eq_of_mul_eq_mul_left d0 this).symm
  rw [ty, tv] at a1
  rw [ty] at a2
  rw [ty, tv]
  generalize hd : (Int.gcd y v : Int) = d at *
  have d1 : 0 < d := by omega
  have k0 : y' * m1 = v' * m2 := by
    apply ba_cancel d1
    have : d * y' * m1 = d * v' * m2 := by rw [← hy', ← hv', ← f1, ← f2]
    grind
  have dv : v' ∣ m1 := by
    have c1 : v'.natAbs ∣ y'.natAbs * m1.natAbs := by
      rw [← Int.natAbs_mul, k0, Int.natAbs_mul]; exact Nat.dvd_mul_right _ _
    have c2 : Nat.Coprime v'.natAbs y'.natAbs := by
      have : Nat.gcd y'.natAbs v'.natAbs = 1 := co
      exact Nat.Coprime.symm this
    exact Int.natAbs_dvd_natAbs.mp (Nat.Coprime.dvd_of_dvd_mul_left c2 c1)
  obtain ⟨k, hk⟩ := dv
  have yp : 0 < y' := by rw [hy'] at y0; exact Int.pos_of_mul_pos_right y0 d1
  have vp : 0 < v' := by rw [hv'] at v0; exact Int.pos_of_mul_pos_right v0 d1
  have kp : 0 < k := by rw [hk] at h1; exact Int.pos_of_mul_pos_right h1 vp
  have m2k : m2 = y' * k := by
    apply ba_cancel vp
    rw [← k0, hk]; grind
  refine ⟨a1, a2, ?_, ?_, ?_⟩
  · have : V = y' * v * k := by rw [f1, hk, hy', hv']; grind
    have q : y' * v * 1 ≤ y' * v * k := Int.mul_le_mul_of_nonneg_left (by omega) (by omega)
    omega
  · have : p1 = x * v' * k := by rw [e1, hk]; grind
    rw [this, Int.natAbs_mul (x * v')]
    exact Nat.le_mul_of_pos_right _ (by omega)
  · have : p2 = u * y' * k := by rw [e2, m2k]; grind
    rw [this, Int.natAbs_mul (u * y')]
    exact Nat.le_mul_of_pos_right _ (by omega)
