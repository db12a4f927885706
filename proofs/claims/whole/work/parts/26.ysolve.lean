/-! the reference's table of fractions -/
theorem fp_int {t : Int} (h : t.natAbs < 9223372036854775808) : fp_is (Int64.ofInt t) (Int64.ofInt 1) t 1 := by
  have l := fr_le t (q := 1) (by decide)
  have d := fr_den_pos t 1
  obtain ⟨m, hm, e1, e2⟩ := fr_ex t (q := 1) (by decide)
  have dd : ((Rat.divInt t 1).den : Int) = 1 := by omega
  rw [dd, Int.one_mul] at e2
  rw [← e2, Int.mul_one] at e1
  unfold fp_is
  rw [dd, ← e1]
  exact ⟨rfl, rfl, h, by decide⟩
def ys_c (w : Nat → Nat) (U : Nat → Bool) (v : Nat → Int) (c t : Nat) : Int := if c = 5 then v t else if U c = true then ch_N w t c else 0
def ys_P (w : Nat → Nat) (U : Nat → Bool) (v t : Nat → Int) (k s c : Nat) : Int :=
  if U s = true then ye_mn w U k s * ba_F (ch_N w) (ba_ops U k) s (ys_c w U v c) else if c = 5 then t s else if c = s then 1 else 0
def ys_Q (w : Nat → Nat) (U : Nat → Bool) (k s : Nat) : Int := if U s = true then ye_md w U k s * ba_D (ch_N w) (ba_ops U k) else 1
def ys_M (n : Nat) (up dn : Nat → Int64) (P : Nat → Nat → Int) (Q : Nat → Int) : Prop := ∀ s, s < n → ∀ c, (c < n ∨ c = 5) → fp_is (up (6 * s + c)) (dn (6 * s + c)) (P s c) (Q s)
theorem ys_Qpos {n : Nat} {w : Nat → Nat} (ok : ch_ok n w) {U : Nat → Bool} (h : sv_ok n w U) {k s : Nat} (hk : k ≤ n) (hs : s < n) : 0 < ys_Q w U k s := by
  unfold ys_Q ye_md
  by_cases us : U s = true
  · rw [if_pos us]
    obtain ⟨g, T⟩ := h
    have t := ch_tot_pos w s
    refine Int.mul_pos (Int.mul_pos (by omega) ?_) (T k hk).1
    split
    · exact (T s (by omega)).1
    · decide
  · rw [if_neg us]; decide
section
variable {n : Nat} {w : Nat → Nat} {a : Nat → Int32} {fa fb : Int64} {up dn : Nat → Int64} {op : Nat → Int32} {tp bt nt nb : Nat → Int64}
theorem ym_put {post : SY → Prop} {st : Int32} {i : Int32} {k : Nat} (hi : i = nI k) (hk : k < 30) {p q : Int} (hq : 0 < q) (bp : p.natAbs < 9223372036854775808) (bq : q < 9223372036854775808)
    (hp : ∀ x y, fp_is x y p q → post (st, x, y, a, vp_updL up k x, vp_updL dn k y, op, tp, bt, nt, nb)) : wpY_put post (st, fa, fb, a, up, dn, op, tp, bt, nt, nb) i (Int64.ofInt p) (Int64.ofInt q) := by
  subst hi
  unfold wpY_put
  dsimp only
  refine ym_reduce hq bp bq (fun x y f => ?_)
  have e : (nI k).toNatClampNeg = k := nI_clamp (by omega)
  dsimp only
  rw [e]
  exact ⟨vp_in_nI hk (by decide), nm_e ⟨vp_in_nI hk (by decide), nm_e (hp x y f)⟩⟩
/-- a row of an unknown state: the steps are taken off -/
def ys_R (w : Nat → Nat) (U : Nat → Bool) (each : Nat) (t : Nat → Int) (i j : Nat) : Int := (each : Int) * (ch_tot w i : Int) + ba_S (fun x => if U x = true then 0 else t x * (ch_sw w i x : Int)) j
theorem ys_R_b (c : ch_ok n w) {U : Nat → Bool} {each : Nat} (he : each ≤ 1) {t : Nat → Int} (ht : ∀ s, s < n → t s = 0 ∨ t s = 1) {i : Nat} (hi : i < n) : ∀ j, j ≤ n → 0 ≤ ys_R w U each t i j ∧ ys_R w U each t i j ≤ 90 := by
  intro j hj
  have h5 := c.2.1
  have tl := ch_tot_le c (i := i) (by omega)
  have e : ba_S (fun x => if U x = true then 0 else t x * (ch_sw w i x : Int)) j ≤ ba_S (fun x => (ch_sw w i x : Int)) j := by
    apply ba_S_le
    intro x hx
    split
    · omega
    · rcases ht x (by omega) with q | q <;> rw [q] <;> omega
  have e2 := ba_S_mono (f := fun x => (ch_sw w i x : Int)) (fun x => by omega) hj
  rw [ch_sum c hi] at e2
  have e3 : 0 ≤ ba_S (fun x => if U x = true then 0 else t x * (ch_sw w i x : Int)) j := by
    apply ba_S_nonneg
    intro x hx
    split
    · omega
    · rcases ht x (by omega) with q | q <;> rw [q] <;> omega
  have m : (each : Int) * (ch_tot w i : Int) ≤ 1 * (ch_tot w i : Int) := Int.mul_le_mul_of_nonneg_right (by omega) (by omega)
  have m2 : 0 ≤ (each : Int) * (ch_tot w i : Int) := Int.mul_nonneg (by omega) (by omega)
  unfold ys_R
  omega
theorem ym_take {post : SY → Prop} (c : cr_Y n w a) {U : Nat → Bool} {each : Nat} (he : each ≤ 1) {t : Nat → Int} (ht : ∀ s, s < n → t s = 0 ∨ t s = 1) (hop : ∀ s, s < n → (op s = 0 ↔ U s = false))
    (htp : ∀ s, s < n → tp s = Int64.ofInt (t s)) (hbt : ∀ s, s < n → bt s = Int64.ofInt 1) {i : Nat} (hi : i < n)
    (h0 : ∀ c, c < n → fp_is (up (6 * i + c)) (dn (6 * i + c)) (if i = c then 1 else 0) 1) (h5 : fp_is (up (6 * i + 5)) (dn (6 * i + 5)) (each : Int) 1)
    (hp : ∀ fa' fb' up' dn', (∀ x, (x < 6 * i ∨ 6 * i + 6 ≤ x) → up' x = up x ∧ dn' x = dn x) → (∀ c, c < n → fp_is (up' (6 * i + c)) (dn' (6 * i + c)) (if U c = true then ch_N w i c else if i = c then (ch_tot w i : Int) else 0) (ch_tot w i : Int)) → fp_is (up' (6 * i + 5)) (dn' (6 * i + 5)) (ys_R w U each t i n) (ch_tot w i : Int) → post (nI n, fa', fb', a, up', dn', op, tp, bt, nt, nb)) :
    wpY_takeSteps post (nI n, fa, fb, a, up, dn, op, tp, bt, nt, nb) (nI i) := by
  have n5 := c.1.2.1
  have tl := ch_tot_le c.1 (i := i) (by omega)
  have t1 := ch_tot_pos w i
  have d5 : (6 * nI i + 5).toNatClampNeg = 6 * i + 5 := by
    rw [show 6 * nI i + 5 = nI (6 * i + 5) from ix_6' i 5]; exact nI_clamp (by omega)
  have v5 : vp_in (6 * nI i + 5) 30 := by rw [show 6 * nI i + 5 = nI (6 * i + 5) from ix_6' i 5]; exact vp_in_nI (by omega) (by decide)
  refine loop_0 (fun f j (s : Int64 × Int64 × (Nat → Int64) × (Nat → Int64)) => wY_takeSteps_2 post (nI i) f (nI j) (nI n) s.1 s.2.1 a s.2.2.1 s.2.2.2 op tp bt nt nb)
    (fun j s => (∀ x, (x < 6 * i ∨ 6 * i + 6 ≤ x) → s.2.2.1 x = up x ∧ s.2.2.2 x = dn x) ∧ (∀ c, c < j → fp_is (s.2.2.1 (6 * i + c)) (s.2.2.2 (6 * i + c)) (if U c = true then ch_N w i c else if i = c then (ch_tot w i : Int) else 0) (ch_tot w i : Int)) ∧ (∀ c, j ≤ c → c < n → fp_is (s.2.2.1 (6 * i + c)) (s.2.2.2 (6 * i + c)) (if i = c then 1 else 0) 1) ∧ fp_is (s.2.2.1 (6 * i + 5)) (s.2.2.2 (6 * i + 5)) (ys_R w U each t i j) (ch_tot w i : Int)) n (fa, fb, up, dn) ?_ ?_ ?_
  · refine ⟨fun x _ => ⟨rfl, rfl⟩, fun c hc => absurd hc (by omega), fun c _ hc => h0 c hc, ?_⟩
    refine fp_eq (by decide) (by omega) ?_ h5
    unfold ys_R
    simp [ba_S]
  · rintro f ⟨fa, fb, up', dn'⟩ ⟨g1, g2, _, g4⟩
    exact br_t (nI_le (Nat.le_refl n) (by omega)) (hp fa fb up' dn' g1 g2 g4)
  · rintro f j ⟨fa, fb, up', dn'⟩ hj ⟨g1, g2, g3, g4⟩ ih
    dsimp only at g1 g2 g3 g4
    have ej : (nI j).toNatClampNeg = j := nI_clamp (by omega)
    have sl := ch_sw_le c.1 (i := i) (j := j) (by omega) (by omega)
    have dj : (6 * nI i + nI j).toNatClampNeg = 6 * i + j := by rw [ix_6']; exact nI_clamp (by omega)
    have vj : vp_in (6 * nI i + nI j) 30 := by rw [ix_6']; exact vp_in_nI (by omega) (by decide)
    have v5' : vp_in (nI j) 5 := vp_in_nI (by omega) (by decide)
    refine br_f (nI_ge hj (by omega)) ⟨v5', ?_⟩
    dsimp only
    rw [ej]
    by_cases uj : U j = true
    · refine br_f (fun z => by have := (hop j hj).mp z; rw [uj] at this; cases this) ⟨vj, vj, ?_⟩
      refine ym_sw c (by omega) (by omega) (ym_tot c (by omega) ?_)
      rw [dj, cv_neg (by omega), cv_pos (by omega)]
      refine ym_addS (g3 j (Nat.le_refl j) hj) (by decide) (by omega) (by omega) ?_ (by omega) (fun x y f => ?_)
      · split <;> omega
      · dsimp only
        refine ⟨vj, nm_e ⟨vj, nm_e (nm_r (nI_1 j) (ih (x, y, vp_updL up' (6 * i + j) x, vp_updL dn' (6 * i + j) y) ⟨?_, ?_, ?_, ?_⟩))⟩⟩
        · intro z hz
          dsimp only
          rw [pk_uLn (by omega), pk_uLn (by omega)]; exact g1 z hz
        · intro z hz
          dsimp only
          by_cases e : z = j
          · rw [e, pk_uLs, pk_uLs, if_pos uj]
            refine fp_eq (by omega) (by omega) ?_ f
            unfold ch_N
            split <;> grind
          · rw [pk_uLn (by omega), pk_uLn (by omega)]; exact g2 z (by omega)
        · intro z hz hn
          dsimp only
          rw [pk_uLn (by omega), pk_uLn (by omega)]; exact g3 z (by omega) hn
        · dsimp only
          rw [pk_uLn (by omega), pk_uLn (by omega)]
          have : ys_R w U each t i (j + 1) = ys_R w U each t i j := by
            unfold ys_R
            simp only [ba_S, uj, if_true, Int.add_zero]
          rw [this]; exact g4
    · have uj' : U j = false := by simpa using uj
      refine br_t ((hop j hj).mpr uj') ⟨v5', v5', ?_⟩
      refine ym_sw c (by omega) (by omega) (ym_tot c (by omega) ?_)
      have tj : (t j).natAbs ≤ 1 := by rcases ht j hj with q | q <;> rw [q] <;> decide
      have Rb := ys_R_b c.1 (U := U) he ht hi j (by omega)
      have tsw : (t j * (ch_sw w i j : Int)).natAbs ≤ 9 := by
        have := ba_nm tj (show ((ch_sw w i j : Nat) : Int).natAbs ≤ 9 by omega)
        omega
      rw [htp j hj, hbt j hj, cv_pos (by omega), cv_pos (by omega)]
      refine ym_mulS (fp_int (by omega)) (by decide) (by omega) (by omega) (by omega) (by omega) (by omega) (fun x y f => ?_)
      dsimp only
      refine ⟨v5, v5, ?_⟩
      rw [d5]
      have f' : fp_is x y (t j * (ch_sw w i j : Int)) (ch_tot w i : Int) := by rw [Int.one_mul] at f; exact f
      refine ym_addV (by omega) g4 f' (by omega) (by omega) (fun x y f => ?_)
      dsimp only
      refine ⟨v5, nm_e ⟨v5, nm_e (nm_r (nI_1 j) (ih (x, y, vp_updL up' (6 * i + 5) x, vp_updL dn' (6 * i + 5) y) ⟨?_, ?_, ?_, ?_⟩))⟩⟩
      · intro z hz
        dsimp only
        rw [pk_uLn (by omega), pk_uLn (by omega)]; exact g1 z hz
      · intro z hz
        dsimp only
        rw [pk_uLn (by omega), pk_uLn (by omega)]
        by_cases e : z = j
        · rw [e, if_neg uj]
          refine fp_eq (by decide) (by omega) ?_ (g3 j (Nat.le_refl j) hj)
          split <;> grind
        · exact g2 z (by omega)
      · intro z hz hn
        dsimp only
        rw [pk_uLn (by omega), pk_uLn (by omega)]; exact g3 z (by omega) hn
      · dsimp only
        rw [pk_uLs, pk_uLs]
        have : ys_R w U each t i (j + 1) = ys_R w U each t i j + t j * (ch_sw w i j : Int) := by
          unfold ys_R
          simp only [ba_S]
          rw [if_neg uj]; omega
        rw [this]; exact f
end
