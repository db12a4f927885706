/-! greatest common divisors and fractions on both sides -/
theorem gc_half {b r : Nat} (hr : 0 < r) (h : r < b) : 2 * (b % r) < b := by
  have a := Nat.mod_lt b hr
  have d := Nat.div_add_mod b r
  have q : 1 ≤ b / r := (Nat.le_div_iff_mul_le hr).mpr (by omega)
  have m : r * 1 ≤ r * (b / r) := Nat.mul_le_mul (Nat.le_refl r) q
  omega
theorem gc_step (a b : Nat) : Nat.gcd b (a % b) = Nat.gcd a b := by
  rw [Nat.gcd_comm b, ← Nat.gcd_rec, Nat.gcd_comm]
theorem gc_lt {a b : Nat} (ha : a < 2 ^ 63) (hb : b < 2 ^ 63) : Nat.gcd a b < 2 ^ 63 := by
  rcases Nat.eq_zero_or_pos a with z | z
  · rw [z, Nat.gcd_zero_left]; exact hb
  · exact Nat.lt_of_le_of_lt (Nat.gcd_le_left b z) ha
theorem gc_l0 {b : Nat} (hb : b < 2 ^ 63) : lN b = 0 ↔ b = 0 := pk_lEQ (b := 0) hb (by decide)
theorem gc_le0 {b : Nat} (hb : b < 2 ^ 63) : lN b ≤ 0 ↔ b = 0 := by
  rw [show (0 : Int64) = lN 0 from rfl, pk_lLE hb (by decide)]; omega
theorem xm_gcdL {post : Int64 → Prop} : ∀ m a b k f, b < 2 ^ m → m ≤ 63 → k + 2 * m ≤ 200 → a < 2 ^ 63 → 2 * m + 1 ≤ f → post (lN (Nat.gcd a b)) → wX_commonDivisor_9 post f (lN a) (lN b) (nI k) := by
  intro m
  induction m with
  | zero =>
    intro a b k f hb _ hk ha hf hp
    obtain ⟨f, rfl⟩ : ∃ g, f = g + 1 := ⟨f - 1, by omega⟩
    have b0 : b = 0 := by omega
    subst b0
    rw [Nat.gcd_zero_right] at hp
    exact pk_le 200 k (fun _ => hp) (fun _ => br_t rfl hp)
  | succ m ih =>
    intro a b k f hb hm hk ha hf hp
    obtain ⟨f, rfl⟩ : ∃ g, f = g + 1 := ⟨f - 1, by omega⟩
    have b63 : b < 2 ^ 63 := Nat.lt_of_lt_of_le hb (Nat.pow_le_pow_right (by omega) hm)
    refine pk_le 200 k (fun z => absurd z (by omega)) (fun _ => ?_)
    rcases Nat.eq_zero_or_pos b with z | z
    · subst z
      rw [Nat.gcd_zero_right] at hp
      exact br_t rfl hp
    · have nz : ¬ lN b = 0 := fun q => by have := (gc_l0 b63).mp q; omega
      refine br_f nz ⟨nz, ?_⟩
      rw [pk_lRem ha z b63]
      refine nm_e (nm_r (nI_1 k) ?_)
      have r1 := Nat.mod_lt a z
      rcases Nat.eq_zero_or_pos (a % b) with y | y
      · refine ih b (a % b) (k + 1) f (by rw [y]; exact Nat.two_pow_pos m) (by omega) (by omega) b63 (by omega) ?_
        rw [gc_step]; exact hp
      · obtain ⟨f, rfl⟩ : ∃ g, f = g + 1 := ⟨f - 1, by omega⟩
        refine pk_le 200 (k + 1) (fun z => absurd z (by omega)) (fun _ => ?_)
        have r63 : a % b < 2 ^ 63 := by omega
        have nz2 : ¬ lN (a % b) = 0 := fun q => by have := (gc_l0 r63).mp q; omega
        refine br_f nz2 ⟨nz2, ?_⟩
        rw [pk_lRem b63 y r63]
        refine nm_e (nm_r (nI_1 (k + 1)) ?_)
        refine ih (a % b) (b % (a % b)) (k + 1 + 1) f (by have := gc_half y r1; rw [Nat.pow_succ] at hb; omega) (by omega) (by omega) r63 (by omega) ?_
        rw [gc_step, gc_step]; exact hp
theorem xm_gcd {post : Int64 → Prop} {a b : Nat} (ha : a < 2 ^ 63) (hb : b < 2 ^ 63) (hp : post (lN (Nat.gcd a b))) : wpX_commonDivisor post (lN a) (lN b) :=
  ⟨127, xm_gcdL 63 a b 0 127 hb (by omega) (by omega) ha (by omega) hp⟩
theorem lz_of {p : Int} (h : 0 ≤ p) : Int64.ofInt p = lN p.natAbs := by
  rw [lz_nat]; congr 1; omega
theorem xm_part {post : Int64 → Prop} {p q : Int} (hp : 0 ≤ p) (hq : 0 < q) (bp : p.natAbs < 9223372036854775808) (bq : q < 9223372036854775808) {x y : Int64} (f : fp_is x y p q) {part : Int32} (h0 : part = 0 → post x) (h1 : ¬ part = 0 → post y) : wpX_partOf post (Int64.ofInt p) (Int64.ofInt q) part := by
  have g0 : 0 < Int.gcd p q := Int.gcd_pos_of_ne_zero_right (a := p) (b := q) (by omega)
  have gl : (Int.gcd p q : Int) ≤ q := Int.le_of_dvd hq (Int.gcd_dvd_right (a := p) (b := q))
  have key := (fp_uniq hq hq (fp_parts hq bp bq) f).mpr rfl
  have gg : lN (Nat.gcd p.natAbs q.natAbs) = Int64.ofInt (Int.gcd p q : Int) := lz_nat _
  have nz : ¬ Int64.ofInt (Int.gcd p q : Int) = 0 := fun z => by have := (lz_eq0 (by omega)).mp z; omega
  have step : ∀ z0 r, (Int64.ofInt z0 / Int64.ofInt (Int.gcd p q : Int) = r) → post r → wX_partOf_10 post (Int64.ofInt p) (Int64.ofInt q) (Int64.ofInt z0) := by
    intro z0 r e pr
    unfold wX_partOf_10
    rw [lz_of hp, lz_of (Int.le_of_lt hq)]
    refine xm_gcd (by omega) (by omega) ?_
    rw [gg]
    refine br_f nz ⟨nz, ?_⟩
    rw [e]; exact pr
  exact br_c (fun z => step p x key.1 (h0 z)) (fun z => step q y key.2 (h1 z))
theorem xm_partInf {post : Int64 → Prop} {part : Int32} (h0 : part = 0 → post 1) (h1 : ¬ part = 0 → post 0) : wpX_partOf post 1 0 part := by
  have nz : ¬ (1 : Int64) = 0 := by decide
  have a : wX_partOf_10 post 1 0 1 ↔ wX_partOf_10 post 1 0 1 := Iff.rfl
  have step : ∀ z0 r : Int64, (z0 / 1 = r) → post r → wX_partOf_10 post 1 0 z0 := by
    intro z0 r e pr
    refine xm_gcd (a := 1) (b := 0) (by decide) (by decide) ?_
    exact br_f nz ⟨nz, by rw [show lN (Nat.gcd 1 0) = 1 from rfl, e]; exact pr⟩
  exact br_c (fun z => step 1 1 (by decide) (h0 z)) (fun z => step 0 0 (by decide) (h1 z))
/-! the reference's -/
theorem gc_rem (x m : Int64) (hm : 0 < m.toInt) : x - x / m * m = Int64.ofInt (x.toInt.tmod m.toInt) := by
  have ne : m ≠ -1 := fun z => by rw [z] at hm; exact absurd hm (by decide)
  have d : x / m = Int64.ofInt (x.toInt.tdiv m.toInt) := by
    rw [← Int64.toInt_div_of_ne_right x m ne, Int64.ofInt_toInt]
  have e : x - x / m * m = Int64.ofInt (x.toInt - x.toInt.tdiv m.toInt * m.toInt) := by
    rw [Int64.ofInt_sub, Int64.ofInt_mul, Int64.ofInt_toInt, Int64.ofInt_toInt, ← d]
  rw [e]
  congr 1
  rw [Int.tmod_def, Int.mul_comm]
section
variable {n : Nat} {a : Nat → Int32} {fa fb : Int64} {up dn : Nat → Int64} {op : Nat → Int32} {tp bt nt nb : Nat → Int64}
theorem ym_cT (st : Int32) : ∀ k (x y : Int64), y.toInt.toNat ≤ k → ∃ g, ∀ post : Int64 → Prop, post g → ∃ f, wY_common_28 post st fa fb a up dn op tp bt nt nb f x y := by
  intro k
  induction k with
  | zero =>
    intro x y h
    refine ⟨x, fun post hp => ⟨1, br_t ?_ hp⟩⟩
    rw [Int64.le_iff_toInt_le, show (0 : Int64).toInt = 0 from rfl]
    omega
  | succ k ih =>
    intro x y h
    by_cases z : y ≤ 0
    · exact ⟨x, fun post hp => ⟨1, br_t z hp⟩⟩
    · have y0 : 0 < y.toInt := by
        rw [Int64.le_iff_toInt_le, show (0 : Int64).toInt = 0 from rfl] at z
        omega
      have tb := tmod_bounds (a := x.toInt) y0
      have yl := Int64.toInt_lt y
      have e : (x - x / y * y).toInt = x.toInt.tmod y.toInt := by
        rw [gc_rem x y y0]
        exact lz_toInt (by omega)
      obtain ⟨g, hg⟩ := ih y (x - x / y * y) (by rw [e]; omega)
      refine ⟨g, fun post hp => ?_⟩
      obtain ⟨f, hf⟩ := hg post hp
      have nz : ¬ y = 0 := fun q => by rw [q] at y0; exact absurd y0 (by decide)
      exact ⟨f + 1, br_f z ⟨nz, nm_e hf⟩⟩
theorem ym_cS (st : Int32) : ∀ b a' : Nat, a' < 2 ^ 63 → b < 2 ^ 63 → ∀ post : Int64 → Prop, post (lN (Nat.gcd a' b)) → ∃ f, wY_common_28 post st fa fb a up dn op tp bt nt nb f (lN a') (lN b) := by
  intro b
  induction b using Nat.strongRecOn with
  | ind b ih =>
    intro a' ha hb post hp
    rcases Nat.eq_zero_or_pos b with z | z
    · subst z
      rw [Nat.gcd_zero_right] at hp
      exact ⟨1, br_t (by decide) hp⟩
    · have r1 := Nat.mod_lt a' z
      obtain ⟨f, hf⟩ := ih (a' % b) r1 b hb (by omega) post (by rw [gc_step]; exact hp)
      have nz : ¬ lN b = 0 := fun q => by have := (gc_l0 hb).mp q; omega
      have np : ¬ lN b ≤ 0 := fun q => by have := (gc_le0 hb).mp q; omega
      exact ⟨f + 1, br_f np ⟨nz, nm_r (pk_lRem ha z hb) hf⟩⟩
theorem ym_commonT (st : Int32) (x y : Int64) : ∃ g, ∀ post : Int64 → Prop, post g → wpY_common post (st, fa, fb, a, up, dn, op, tp, bt, nt, nb) x y := by
  have s12 : ∀ z0 : Int64, ∃ g, ∀ post : Int64 → Prop, post g → wY_common_12 post y z0 st fa fb a up dn op tp bt nt nb := by
    intro z0
    by_cases q : 0 ≤ y
    · obtain ⟨g, hg⟩ := ym_cT (fa := fa) (fb := fb) (a := a) (up := up) (dn := dn) (op := op) (tp := tp) (bt := bt) (nt := nt) (nb := nb) st _ z0 y (Nat.le_refl _)
      exact ⟨g, fun post hp => br_t q (hg post hp)⟩
    · obtain ⟨g, hg⟩ := ym_cT (fa := fa) (fb := fb) (a := a) (up := up) (dn := dn) (op := op) (tp := tp) (bt := bt) (nt := nt) (nb := nb) st _ z0 (-y) (Nat.le_refl _)
      exact ⟨g, fun post hp => br_f q (nm_e (hg post hp))⟩
  by_cases q : 0 ≤ x
  · obtain ⟨g, hg⟩ := s12 x
    exact ⟨g, fun post hp => br_t q (hg post hp)⟩
  · obtain ⟨g, hg⟩ := s12 (-x)
    exact ⟨g, fun post hp => br_f q (hg post hp)⟩
theorem ym_common {st : Int32} {post : Int64 → Prop} {p q : Int} (bp : p.natAbs < 9223372036854775808) (bq : q.natAbs < 9223372036854775808) (hp : post (Int64.ofInt (Int.gcd p q : Int))) : wpY_common post (st, fa, fb, a, up, dn, op, tp, bt, nt, nb) (Int64.ofInt p) (Int64.ofInt q) := by
  have gg : lN (Nat.gcd p.natAbs q.natAbs) = Int64.ofInt (Int.gcd p q : Int) := lz_nat _
  have ng : ∀ z : Int, ¬ 0 ≤ z → -Int64.ofInt z = lN z.natAbs := by
    intro z hz
    rw [← Int64.ofInt_neg, lz_nat]
    congr 1; omega
  have le0 : ∀ z : Int, z.natAbs < 9223372036854775808 → ((0 : Int64) ≤ Int64.ofInt z ↔ 0 ≤ z) := fun z hz => lz_le (a := 0) (by decide) hz
  have s12 : wY_common_12 post (Int64.ofInt q) (lN p.natAbs) st fa fb a up dn op tp bt nt nb := by
    by_cases z : 0 ≤ q
    · refine br_t ((le0 q bq).mpr z) ?_
      rw [lz_of z]
      exact ym_cS st _ _ (by omega) (by omega) post (by rw [gg]; exact hp)
    · refine br_f (fun h => z ((le0 q bq).mp h)) ?_
      rw [ng q z]
      exact nm_e (ym_cS st _ _ (by omega) (by omega) post (by rw [gg]; exact hp))
  by_cases z : 0 ≤ p
  · refine br_t ((le0 p bp).mpr z) ?_
    rw [lz_of z]
    exact s12
  · refine br_f (fun h => z ((le0 p bp).mp h)) ?_
    rw [ng p z]
    exact s12
theorem ym_reduceT (st : Int32) (x y : Int64) : ∃ x' y', ∀ post : SY → Prop, post (st, x', y', a, up, dn, op, tp, bt, nt, nb) → wpY_reduce post (st, fa, fb, a, up, dn, op, tp, bt, nt, nb) x y := by
  obtain ⟨g, hg⟩ := ym_commonT (fa := fa) (fb := fb) (a := a) (up := up) (dn := dn) (op := op) (tp := tp) (bt := bt) (nt := nt) (nb := nb) st x y
  have s18 : ∀ d : Int64, ¬ d = 0 → ∃ x' y', ∀ post : SY → Prop, post (st, x', y', a, up, dn, op, tp, bt, nt, nb) → wY_reduce_18 post x y d st fa fb a up dn op tp bt nt nb := by
    intro d nz
    by_cases q : 0 ≤ y
    · exact ⟨x / d, y / d, fun post hp => br_t q ⟨nz, br_t q ⟨nz, nm_e hp⟩⟩⟩
    · exact ⟨(-x) / d, (-y) / d, fun post hp => br_f q ⟨nz, br_f q ⟨nz, nm_e hp⟩⟩⟩
  by_cases z : g = 0
  · obtain ⟨x', y', h⟩ := s18 1 (by decide)
    exact ⟨x', y', fun post hp => hg _ (br_t z (h post hp))⟩
  · obtain ⟨x', y', h⟩ := s18 g z
    exact ⟨x', y', fun post hp => hg _ (br_f z (h post hp))⟩
theorem ym_reduce {st : Int32} {post : SY → Prop} {p q : Int} (hq : 0 < q) (bp : p.natAbs < 9223372036854775808) (bq : q < 9223372036854775808) (hp : ∀ x y, fp_is x y p q → post (st, x, y, a, up, dn, op, tp, bt, nt, nb)) : wpY_reduce post (st, fa, fb, a, up, dn, op, tp, bt, nt, nb) (Int64.ofInt p) (Int64.ofInt q) := by
  have g0 : 0 < Int.gcd p q := Int.gcd_pos_of_ne_zero_right (a := p) (b := q) (by omega)
  have gl : (Int.gcd p q : Int) ≤ q := Int.le_of_dvd hq (Int.gcd_dvd_right (a := p) (b := q))
  have nz : ¬ Int64.ofInt (Int.gcd p q : Int) = 0 := fun z => by have := (lz_eq0 (by omega)).mp z; omega
  have le0 : (0 : Int64) ≤ Int64.ofInt q := (lz_le (a := 0) (by decide) (by omega)).mpr (by omega)
  unfold wpY_reduce
  dsimp only
  refine ym_common bp (by omega) ?_
  exact br_f nz (br_t le0 ⟨nz, br_t le0 ⟨nz, nm_e (hp _ _ (fp_parts hq bp bq))⟩⟩)
theorem ym_addT (st : Int32) (x y u v : Int64) : ∃ x' y', ∀ post : SY → Prop, post (st, x', y', a, up, dn, op, tp, bt, nt, nb) → wpY_addFractions post (st, fa, fb, a, up, dn, op, tp, bt, nt, nb) x y u v := by
  obtain ⟨g, hg⟩ := ym_commonT (fa := fa) (fb := fb) (a := a) (up := up) (dn := dn) (op := op) (tp := tp) (bt := bt) (nt := nt) (nb := nb) st y v
  have s19 : ∀ d : Int64, ¬ d = 0 → ∃ x' y', ∀ post : SY → Prop, post (st, x', y', a, up, dn, op, tp, bt, nt, nb) → wY_addFractions_19 post x y u v d st fa fb a up dn op tp bt nt nb := by
    intro d nz
    obtain ⟨x', y', h⟩ := ym_reduceT (fa := fa) (fb := fb) (a := a) (up := up) (dn := dn) (op := op) (tp := tp) (bt := bt) (nt := nt) (nb := nb) st ((x * (v / d)) + (u * (y / d))) ((y / d) * v)
    exact ⟨x', y', fun post hp => ⟨nz, nz, nz, h _ hp⟩⟩
  by_cases z : g = 0
  · obtain ⟨x', y', h⟩ := s19 1 (by decide)
    exact ⟨x', y', fun post hp => hg _ (br_t z (h post hp))⟩
  · obtain ⟨x', y', h⟩ := s19 g z
    exact ⟨x', y', fun post hp => hg _ (br_f z (h post hp))⟩
theorem ym_mulT (st : Int32) (x y u v : Int64) : ∃ x' y', ∀ post : SY → Prop, post (st, x', y', a, up, dn, op, tp, bt, nt, nb) → wpY_multiply post (st, fa, fb, a, up, dn, op, tp, bt, nt, nb) x y u v := by
  obtain ⟨g, hg⟩ := ym_commonT (fa := fa) (fb := fb) (a := a) (up := up) (dn := dn) (op := op) (tp := tp) (bt := bt) (nt := nt) (nb := nb) st x v
  obtain ⟨k, hk⟩ := ym_commonT (fa := fa) (fb := fb) (a := a) (up := up) (dn := dn) (op := op) (tp := tp) (bt := bt) (nt := nt) (nb := nb) st u y
  have s38 : ∀ d e : Int64, ¬ d = 0 → ¬ e = 0 → ∃ x' y', ∀ post : SY → Prop, post (st, x', y', a, up, dn, op, tp, bt, nt, nb) → wY_multiply_38 post x y u v d e st fa fb a up dn op tp bt nt nb := by
    intro d e nd ne
    obtain ⟨x', y', h⟩ := ym_reduceT (fa := fa) (fb := fb) (a := a) (up := up) (dn := dn) (op := op) (tp := tp) (bt := bt) (nt := nt) (nb := nb) st ((x / d) * (u / e)) ((y / e) * (v / d))
    exact ⟨x', y', fun post hp => ⟨nd, ne, ne, nd, h _ hp⟩⟩
  have s28 : ∀ d : Int64, ¬ d = 0 → ∃ x' y', ∀ post : SY → Prop, post (st, x', y', a, up, dn, op, tp, bt, nt, nb) → wY_multiply_28 post x y u v d k st fa fb a up dn op tp bt nt nb := by
    intro d nd
    by_cases z : k = 0
    · obtain ⟨x', y', h⟩ := s38 d 1 nd (by decide)
      exact ⟨x', y', fun post hp => br_t z (h post hp)⟩
    · obtain ⟨x', y', h⟩ := s38 d k nd z
      exact ⟨x', y', fun post hp => br_f z (h post hp)⟩
  by_cases z : g = 0
  · obtain ⟨x', y', h⟩ := s28 1 (by decide)
    exact ⟨x', y', fun post hp => hg _ (hk _ (br_t z (h post hp)))⟩
  · obtain ⟨x', y', h⟩ := s28 g z
    exact ⟨x', y', fun post hp => hg _ (hk _ (br_f z (h post hp)))⟩
/-- multiplying, with nothing too large on the way -/
theorem ym_mul {st : Int32} {post : SY → Prop} {x y u v : Int} (hy : 0 < y) (hv : 0 < v) (bx : x.natAbs < 9223372036854775808) (by' : y < 9223372036854775808) (bu : u.natAbs < 9223372036854775808) (bv : v < 9223372036854775808)
    (b1 : (x.tdiv (Int.gcd x v : Int) * u.tdiv (Int.gcd u y : Int)).natAbs < 9223372036854775808) (b2 : y.tdiv (Int.gcd u y : Int) * v.tdiv (Int.gcd x v : Int) < 9223372036854775808)
    (hp : ∀ x' y', fp_is x' y' (x * u) (y * v) → post (st, x', y', a, up, dn, op, tp, bt, nt, nb)) :
    wpY_multiply post (st, fa, fb, a, up, dn, op, tp, bt, nt, nb) (Int64.ofInt x) (Int64.ofInt y) (Int64.ofInt u) (Int64.ofInt v) := by
  obtain ⟨f1, f2, _, _⟩ := fr_mul (x := x) (u := u) hy hv
  have g0 : 0 < Int.gcd x v := Int.gcd_pos_of_ne_zero_right (a := x) (b := v) (by omega)
  have gl : (Int.gcd x v : Int) ≤ v := Int.le_of_dvd hv (Int.gcd_dvd_right (a := x) (b := v))
  have k0 : 0 < Int.gcd u y := Int.gcd_pos_of_ne_zero_right (a := u) (b := y) (by omega)
  have kl : (Int.gcd u y : Int) ≤ y := Int.le_of_dvd hy (Int.gcd_dvd_right (a := u) (b := y))
  have nd : ¬ Int64.ofInt (Int.gcd x v : Int) = 0 := fun z => by have := (lz_eq0 (by omega)).mp z; omega
  have ne : ¬ Int64.ofInt (Int.gcd u y : Int) = 0 := fun z => by have := (lz_eq0 (by omega)).mp z; omega
  unfold wpY_multiply
  dsimp only
  refine ym_common bx (by omega) (ym_common bu (by omega) (br_f nd (br_f ne ⟨nd, ne, ne, nd, ?_⟩)))
  rw [lz_div bx (by omega), lz_div bu (by omega), lz_div (by omega) (by omega), lz_div (by omega) (by omega), ← Int64.ofInt_mul, ← Int64.ofInt_mul]
  refine ym_reduce f2 b1 b2 (fun x' y' f => hp x' y' ?_)
  unfold fp_is at f ⊢
  rw [f1] at f
  exact f
theorem ym_mulP {st : Int32} {post : SY → Prop} {x y u v : Int64} {p q p' q' p2 q2 : Int} (f : fp_is x y p q) (g : fp_is u v p' q') (hq : 0 < q) (hq' : 0 < q') (hq2 : 0 < q2) (e : p * p' * q2 = p2 * (q * q')) (b1 : p2.natAbs < 9223372036854775808) (b2 : q2 < 9223372036854775808)
    (hp : ∀ x' y', fp_is x' y' p2 q2 → post (st, x', y', a, up, dn, op, tp, bt, nt, nb)) : wpY_multiply post (st, fa, fb, a, up, dn, op, tp, bt, nt, nb) x y u v := by
  obtain ⟨rfl, rfl, f3, f4⟩ := f
  obtain ⟨rfl, rfl, g3, g4⟩ := g
  have dp := fr_den_pos p q
  have dp' := fr_den_pos p' q'
  have r := fr_mulR dp dp' ((Rat.divInt p q).reduced) ((Rat.divInt p' q').reduced)
  have eq : Rat.divInt (p * p') (q * q') = Rat.divInt p2 q2 := fr_eq (Int.mul_pos hq hq') hq2 e
  have l := fr_le p2 hq2
  rw [fp_prod hq hq', eq] at r
  refine ym_mul dp dp' f3 f4 g3 g4 (by rw [r.1]; omega) (by rw [r.2]; omega) (fun x' y' h => hp x' y' ?_)
  unfold fp_is at h ⊢
  rw [fp_prod hq hq', eq] at h
  exact h
theorem ym_mulQ {st : Int32} {post : SY → Prop} {x y u v : Int64} {p q p' q' p2 q2 : Int} (f : fp_is x y p q) (g : fp_is v u p' q') (hq : 0 < q) (hp' : 0 < p') (hq' : 0 < q') (hq2 : 0 < q2) (e : p * q' * q2 = p2 * (q * p')) (b1 : p2.natAbs < 9223372036854775808) (b2 : q2 < 9223372036854775808)
    (hp : ∀ x' y', fp_is x' y' p2 q2 → post (st, x', y', a, up, dn, op, tp, bt, nt, nb)) : wpY_multiply post (st, fa, fb, a, up, dn, op, tp, bt, nt, nb) x y u v := by
  obtain ⟨rfl, rfl, f3, f4⟩ := f
  obtain ⟨rfl, rfl, g3, g4⟩ := g
  have dp := fr_den_pos p q
  have dp' := fr_den_pos p' q'
  obtain ⟨n0, qe⟩ := fp_quot (p := p) hq hp' hq'
  have r := fr_mulR (u := ((Rat.divInt p' q').den : Int)) dp n0 ((Rat.divInt p q).reduced) (by rw [Int.gcd_comm]; exact (Rat.divInt p' q').reduced)
  have eq : Rat.divInt (p * q') (q * p') = Rat.divInt p2 q2 := fr_eq (Int.mul_pos hq hp') hq2 e
  have l := fr_le p2 hq2
  rw [qe, eq] at r
  refine ym_mul dp n0 f3 f4 (by omega) (by omega) (by rw [r.1]; omega) (by rw [r.2]; omega) (fun x' y' h => hp x' y' ?_)
  unfold fp_is at h ⊢
  rw [qe, eq] at h
  exact h
theorem ym_mulS {st : Int32} {post : SY → Prop} {x y : Int64} {p q u v : Int} (f : fp_is x y p q) (hq : 0 < q) (hv : 0 < v) (bu : u.natAbs < 9223372036854775808) (bv : v < 9223372036854775808) (b1 : (p * u).natAbs < 9223372036854775808) (b2 : q * v < 9223372036854775808)
    (hp : ∀ x' y', fp_is x' y' (p * u) (q * v) → post (st, x', y', a, up, dn, op, tp, bt, nt, nb)) : wpY_multiply post (st, fa, fb, a, up, dn, op, tp, bt, nt, nb) x y (Int64.ofInt u) (Int64.ofInt v) := by
  obtain ⟨rfl, rfl, f3, f4⟩ := f
  have dp := fr_den_pos p q
  obtain ⟨m, hm, e1, e2⟩ := fr_ex p hq
  obtain ⟨_, m2, m3, m4⟩ := fr_mul (x := (Rat.divInt p q).num) (u := u) dp hv
  have l := fr_le p hq
  have c1 : ((Rat.divInt p q).num * u).natAbs ≤ (p * u).natAbs := by
    rw [Int.natAbs_mul, Int.natAbs_mul]; exact Nat.mul_le_mul l.1 (Nat.le_refl _)
  have c2 : ((Rat.divInt p q).den : Int) * v ≤ q * v := Int.mul_le_mul_of_nonneg_right l.2 (Int.le_of_lt hv)
  refine ym_mul dp hv f3 f4 bu bv (by omega) (by omega) (fun x' y' h => hp x' y' ?_)
  refine fp_eq (Int.mul_pos dp hv) (Int.mul_pos hq hv) ?_ h
  generalize (Rat.divInt p q).num = A at *
  generalize ((Rat.divInt p q).den : Int) = B at *
  subst e1 e2
  grind
/-- adding, with nothing too large on the way -/
theorem ym_add {st : Int32} {post : SY → Prop} {x y u v : Int} (hy : 0 < y) (hv : 0 < v) (by' : y < 9223372036854775808) (bv : v < 9223372036854775808)
    (b1 : (x * v.tdiv (Int.gcd y v : Int)).natAbs + (u * y.tdiv (Int.gcd y v : Int)).natAbs < 9223372036854775808) (b2 : y.tdiv (Int.gcd y v : Int) * v < 9223372036854775808)
    (hp : ∀ x' y', fp_is x' y' (x * v.tdiv (Int.gcd y v : Int) + u * y.tdiv (Int.gcd y v : Int)) (y.tdiv (Int.gcd y v : Int) * v) → post (st, x', y', a, up, dn, op, tp, bt, nt, nb)) :
    wpY_addFractions post (st, fa, fb, a, up, dn, op, tp, bt, nt, nb) (Int64.ofInt x) (Int64.ofInt y) (Int64.ofInt u) (Int64.ofInt v) := by
  obtain ⟨_, f2, _⟩ := fr_add (x := x) (u := u) hy hv
  have g0 : 0 < Int.gcd y v := Int.gcd_pos_of_ne_zero_right (a := y) (b := v) (by omega)
  have gl : (Int.gcd y v : Int) ≤ v := Int.le_of_dvd hv (Int.gcd_dvd_right (a := y) (b := v))
  have nd : ¬ Int64.ofInt (Int.gcd y v : Int) = 0 := fun z => by have := (lz_eq0 (by omega)).mp z; omega
  unfold wpY_addFractions
  dsimp only
  refine ym_common (by omega) (by omega) (br_f nd ⟨nd, nd, nd, ?_⟩)
  rw [lz_div (by omega) (by omega), lz_div (by omega) (by omega), ← Int64.ofInt_mul, ← Int64.ofInt_mul, ← Int64.ofInt_mul, ← Int64.ofInt_add]
  have s := Int.natAbs_add_le (x * v.tdiv (Int.gcd y v : Int)) (u * y.tdiv (Int.gcd y v : Int))
  exact ym_reduce f2 (by omega) b2 hp
theorem ym_addV {st : Int32} {post : SY → Prop} {x y u v : Int64} {p1 p2 V : Int} (hV : 0 < V) (f : fp_is x y p1 V) (g : fp_is u v p2 V) (b1 : p1.natAbs + p2.natAbs < 9223372036854775808) (b2 : V < 9223372036854775808)
    (hp : ∀ x' y', fp_is x' y' (p1 + p2) V → post (st, x', y', a, up, dn, op, tp, bt, nt, nb)) : wpY_addFractions post (st, fa, fb, a, up, dn, op, tp, bt, nt, nb) x y u v := by
  obtain ⟨rfl, rfl, f3, f4⟩ := f
  obtain ⟨rfl, rfl, g3, g4⟩ := g
  obtain ⟨a1, a2, a3, a4, a5⟩ := fr_addV p1 p2 hV rfl rfl rfl rfl
  refine ym_add (fr_den_pos p1 V) (fr_den_pos p2 V) f4 g4 (by omega) (by omega) (fun x' y' h => hp x' y' ?_)
  unfold fp_is at h ⊢
  rw [a1] at h
  exact h
theorem ym_addS {st : Int32} {post : SY → Prop} {x y : Int64} {p q u v : Int} (f : fp_is x y p q) (hq : 0 < q) (hv : 0 < v) (bv : v < 9223372036854775808) (b1 : (p * v).natAbs + (u * q).natAbs < 9223372036854775808) (b2 : q * v < 9223372036854775808)
    (hp : ∀ x' y', fp_is x' y' (p * v + u * q) (q * v) → post (st, x', y', a, up, dn, op, tp, bt, nt, nb)) : wpY_addFractions post (st, fa, fb, a, up, dn, op, tp, bt, nt, nb) x y (Int64.ofInt u) (Int64.ofInt v) := by
  obtain ⟨rfl, rfl, f3, f4⟩ := f
  have dp := fr_den_pos p q
  obtain ⟨m, hm, e1, e2⟩ := fr_ex p hq
  obtain ⟨m1, m2, m3, m4, m5⟩ := fr_add (x := (Rat.divInt p q).num) (u := u) dp hv
  have l := fr_le p hq
  have c1 : ((Rat.divInt p q).num * v).natAbs ≤ (p * v).natAbs := by
    rw [Int.natAbs_mul, Int.natAbs_mul]; exact Nat.mul_le_mul l.1 (Nat.le_refl _)
  have c3 : (u * ((Rat.divInt p q).den : Int)).natAbs ≤ (u * q).natAbs := by
    rw [Int.natAbs_mul, Int.natAbs_mul]; exact Nat.mul_le_mul (Nat.le_refl _) (by omega)
  have c2 : ((Rat.divInt p q).den : Int) * v ≤ q * v := Int.mul_le_mul_of_nonneg_right l.2 (Int.le_of_lt hv)
  refine ym_add dp hv f4 bv (by omega) (by omega) (fun x' y' h => hp x' y' ?_)
  unfold fp_is at h
  rw [m1] at h
  refine fp_eq (Int.mul_pos dp hv) (Int.mul_pos hq hv) ?_ h
  generalize (Rat.divInt p q).num = A at *
  generalize ((Rat.divInt p q).den : Int) = B at *
  subst e1 e2
  grind
end
