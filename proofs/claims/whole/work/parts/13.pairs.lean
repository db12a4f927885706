/-! a pair of longs that holds a fraction in lowest terms -/
def fp_is (x y : Int64) (p q : Int) : Prop :=
  x = Int64.ofInt (Rat.divInt p q).num ∧ y = Int64.ofInt ((Rat.divInt p q).den : Int) ∧ (Rat.divInt p q).num.natAbs < 9223372036854775808 ∧ ((Rat.divInt p q).den : Int) < 9223372036854775808
theorem fp_mk {x y : Int64} {p q : Int} (hq : 0 < q) (bp : p.natAbs < 9223372036854775808) (bq : q < 9223372036854775808) (hx : x = Int64.ofInt (Rat.divInt p q).num) (hy : y = Int64.ofInt ((Rat.divInt p q).den : Int)) : fp_is x y p q := by
  have l := fr_le p hq
  exact ⟨hx, hy, by omega, by omega⟩
theorem fp_eq {x y : Int64} {p q p' q' : Int} (hq : 0 < q) (hq' : 0 < q') (h : p * q' = p' * q) (f : fp_is x y p q) : fp_is x y p' q' := by
  unfold fp_is
  rw [← fr_eq hq hq' h]
  exact f
theorem fp_neg {x y : Int64} {p q : Int} (f : fp_is x y p q) : fp_is (-x) y (-p) q := by
  obtain ⟨h1, h2, h3, h4⟩ := f
  unfold fp_is
  rw [← Rat.neg_divInt, Rat.neg_num, Rat.neg_den]
  exact ⟨by rw [h1, Int64.ofInt_neg], h2, by rw [Int.natAbs_neg]; exact h3, h4⟩
theorem fp_uniq {x y x' y' : Int64} {p q p' q' : Int} (hq : 0 < q) (hq' : 0 < q') (f : fp_is x y p q) (g : fp_is x' y' p' q') : (x = x' ∧ y = y') ↔ p * q' = p' * q := by
  constructor
  · rintro ⟨e1, e2⟩
    apply fr_cross hq hq'
    obtain ⟨h1, h2, h3, h4⟩ := f
    obtain ⟨g1, g2, g3, g4⟩ := g
    have d1 := fr_den_pos p q
    have d2 := fr_den_pos p' q'
    apply Rat.ext
    · rw [h1, g1] at e1
      exact (lz_eq h3 g3).mp e1
    · rw [h2, g2] at e2
      have := (lz_eq (by omega) (by omega)).mp e2
      omega
  · intro h
    have e := fr_eq hq hq' h
    unfold fp_is at f g
    rw [← e] at g
    exact ⟨by rw [f.1, g.1], by rw [f.2.1, g.2.1]⟩
theorem fp_zero {x y : Int64} {p q : Int} (hq : 0 < q) (f : fp_is x y p q) : x = 0 ↔ p = 0 := by
  obtain ⟨h1, _, h3, _⟩ := f
  rw [h1, lz_eq0 h3, Rat.num_eq_zero]
  constructor
  · intro h
    have := fr_cross hq (by omega : (0 : Int) < 1) (p' := 0) (by rw [h]; rfl)
    simpa using this
  · intro h; rw [h, Rat.zero_divInt]
theorem fp_den {x y : Int64} {p q : Int} (f : fp_is x y p q) : ∃ m : Int, 0 < m ∧ m < 9223372036854775808 ∧ y = Int64.ofInt m := ⟨_, fr_den_pos p q, f.2.2.2, f.2.1⟩
/-- the parts of a reduced fraction, out of any whole numbers that make it -/
theorem fp_parts {p q : Int} (hq : 0 < q) (bp : p.natAbs < 9223372036854775808) (bq : q < 9223372036854775808) : fp_is (Int64.ofInt p / Int64.ofInt (Int.gcd p q : Int)) (Int64.ofInt q / Int64.ofInt (Int.gcd p q : Int)) p q := by
  have g0 : 0 < Int.gcd p q := Int.gcd_pos_of_ne_zero_right (a := p) (b := q) (by omega)
  have gl : (Int.gcd p q : Int) ≤ q := Int.le_of_dvd hq (Int.gcd_dvd_right (a := p) (b := q))
  have f := fr_pair p hq
  refine fp_mk hq bp bq ?_ ?_
  · rw [lz_div bp (by omega), f.1]
  · rw [lz_div (by omega) (by omega), f.2]
theorem fp_red1 {x y : Int64} {p q : Int} (f : fp_is x y p q) : Int.gcd (Rat.divInt p q).num ((Rat.divInt p q).den : Int) = 1 := (Rat.divInt p q).reduced
theorem fp_prod {p q p' q' : Int} (hq : 0 < q) (hq' : 0 < q') : Rat.divInt ((Rat.divInt p q).num * (Rat.divInt p' q').num) (((Rat.divInt p q).den : Int) * ((Rat.divInt p' q').den : Int)) = Rat.divInt (p * p') (q * q') := by
  obtain ⟨m, hm, e1, e2⟩ := fr_ex p hq
  obtain ⟨m', hm', e1', e2'⟩ := fr_ex p' hq'
  have d := fr_den_pos p q
  have d' := fr_den_pos p' q'
  apply fr_eq (Int.mul_pos d d') (Int.mul_pos hq hq')
  generalize (Rat.divInt p q).num = a at *
  generalize ((Rat.divInt p q).den : Int) = b at *
  generalize (Rat.divInt p' q').num = a' at *
  generalize ((Rat.divInt p' q').den : Int) = b' at *
  subst e1 e2 e1' e2'
  grind
theorem fp_quot {p q p' q' : Int} (hq : 0 < q) (hp' : 0 < p') (hq' : 0 < q') : 0 < (Rat.divInt p' q').num ∧ Rat.divInt ((Rat.divInt p q).num * ((Rat.divInt p' q').den : Int)) (((Rat.divInt p q).den : Int) * (Rat.divInt p' q').num) = Rat.divInt (p * q') (q * p') := by
  obtain ⟨m, hm, e1, e2⟩ := fr_ex p hq
  obtain ⟨m', hm', e1', e2'⟩ := fr_ex p' hq'
  have d := fr_den_pos p q
  have d' := fr_den_pos p' q'
  have n' : 0 < (Rat.divInt p' q').num := by rw [e1'] at hp'; exact Int.pos_of_mul_pos_left hp' hm'
  refine ⟨n', ?_⟩
  apply fr_eq (Int.mul_pos d n') (Int.mul_pos hq hp')
  generalize (Rat.divInt p q).num = a at *
  generalize ((Rat.divInt p q).den : Int) = b at *
  generalize (Rat.divInt p' q').num = a' at *
  generalize ((Rat.divInt p' q').den : Int) = b' at *
  subst e1 e2 e1' e2'
  grind
