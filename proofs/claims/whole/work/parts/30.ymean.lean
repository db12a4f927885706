/-! the mean over one step, and what is told -/
theorem fp_again {x y : Int64} {p q : Int} (f : fp_is x y (Rat.divInt p q).num ((Rat.divInt p q).den : Int)) : fp_is x y p q := by
  unfold fp_is at f ⊢
  rw [Rat.num_divInt_den] at f
  exact f
section
variable {n : Nat} {w : Nat → Nat} {a : Nat → Int32} {fa fb : Int64} {up dn : Nat → Int64} {op : Nat → Int32} {tp bt nt nb : Nat → Int64}
theorem ym_mean {post : SY → Prop} (c : cr_Y n w a) {j : Nat} (hj : j < n) {P : Nat → Int} {Q : Int} (hQ : 0 < Q) (bQ : Q ≤ 1000000000) (bP : ∀ k, k < n → (P k).natAbs ≤ 1000000000)
    (h : ∀ k, k < n → 0 < ch_sw w j k → fp_is (tp k) (bt k) (P k) Q)
    (hp : ∀ x y, fp_is x y (ba_S (fun k => (ch_sw w j k : Int) * P k) n) ((ch_tot w j : Int) * Q) → post (nI n, x, y, a, up, dn, op, tp, bt, nt, nb)) :
    wpY_mean post (nI n, fa, fb, a, up, dn, op, tp, bt, nt, nb) (nI j) := by
  have n5 := c.1.2.1
  have tl := ch_tot_le c.1 (i := j) (by omega)
  have t1 := ch_tot_pos w j
  have V0 : 0 < (ch_tot w j : Int) * Q := Int.mul_pos (by omega) hQ
  have Vb : (ch_tot w j : Int) * Q ≤ 45 * 1000000000 := Int.mul_le_mul (by omega) bQ (by omega) (by omega)
  have Sb : ∀ i, i ≤ n → (ba_S (fun k => (ch_sw w j k : Int) * P k) i).natAbs ≤ i * 9000000000 := by
    intro i
    induction i with
    | zero => intro _; simp [ba_S]
    | succ i ih =>
      intro hi
      have a1 := ih (by omega)
      have sl := ch_sw_le c.1 (i := j) (j := i) (by omega) (by omega)
      have a2 := ba_nm (show ((ch_sw w j i : Nat) : Int).natAbs ≤ 9 by omega) (bP i (by omega))
      have a3 := Int.natAbs_add_le (ba_S (fun k => (ch_sw w j k : Int) * P k) i) ((ch_sw w j i : Int) * P i)
      simp only [ba_S]
      omega
  refine loop_0 (fun f i (s : Int64 × Int64 × Int64 × Int64) => wY_mean_8 post (nI j) f s.1 s.2.1 (nI i) (nI n) s.2.2.1 s.2.2.2 a up dn op tp bt nt nb)
    (fun i s => fp_is s.1 s.2.1 (ba_S (fun k => (ch_sw w j k : Int) * P k) i) ((ch_tot w j : Int) * Q)) n (0, 1, fa, fb) ?_ ?_ ?_
  · exact fp_eq (by decide) V0 (by simp [ba_S]) (fp_int (t := 0) (by decide))
  · rintro f ⟨x, y, fa, fb⟩ g
    dsimp only at g
    refine br_t (nI_le (Nat.le_refl n) (by omega)) ?_
    dsimp only
    have g' := g
    obtain ⟨rfl, rfl, g3, g4⟩ := g
    exact ym_reduce (fr_den_pos _ _) g3 g4 (fun x y f => hp x y (fp_again f))
  · rintro f i ⟨x, y, fa, fb⟩ hi g ih
    dsimp only at g
    have ei : (nI i).toNatClampNeg = i := nI_clamp (by omega)
    have vi : vp_in (nI i) 5 := vp_in_nI (by omega) (by decide)
    have sl := ch_sw_le c.1 (i := j) (j := i) (by omega) (by omega)
    refine br_f (nI_ge hi (by omega)) ?_
    dsimp only
    refine ym_sw c (by omega) (by omega) ?_
    rcases Nat.eq_zero_or_pos (ch_sw w j i) with z | z
    · refine br_t ((cw_le0 (by omega)).mpr z) (nm_r (nI_1 i) (ih (x, y, fa, fb) ?_))
      dsimp only
      simp only [ba_S]
      rw [z]
      simpa using g
    · refine br_f (fun q => by have := (cw_le0 (by omega)).mp q; omega) ⟨vi, vi, ?_⟩
      refine ym_sw c (by omega) (by omega) (ym_tot c (by omega) ?_)
      rw [ei, cv_pos (by omega), cv_pos (by omega)]
      have b1 := ba_nm (bP i hi) (show ((ch_sw w j i : Nat) : Int).natAbs ≤ 9 by omega)
      have b2 : Q * (ch_tot w j : Int) ≤ 1000000000 * 45 := Int.mul_le_mul bQ (by omega) (by omega) (by omega)
      refine ym_mulS (h i hi z) hQ (by omega) (by omega) (by omega) (by omega) (by omega) (fun x1 y1 f1 => ?_)
      dsimp only
      have f1' : fp_is x1 y1 ((ch_sw w j i : Int) * P i) ((ch_tot w j : Int) * Q) := by
        rw [Int.mul_comm (P i), Int.mul_comm Q] at f1; exact f1
      have s1 := Sb i (by omega)
      have b3 : ((ch_sw w j i : Int) * P i).natAbs ≤ 9000000000 := by rw [Int.mul_comm]; omega
      refine ym_addV V0 g f1' (by omega) (by omega) (fun x2 y2 f2 => ?_)
      dsimp only
      exact nm_r (nI_1 i) (ih (x2, y2, x2, y2) f2)
theorem ym_told {post : Int64 → SY → Prop} {st : Int32} {i : Nat} (hi : i < 5) {part : Int32} (h0 : part = 0 → post (tp i) (st, tp i, bt i, a, up, dn, op, tp, bt, nt, nb)) (h1 : ¬ part = 0 → post (bt i) (st, tp i, bt i, a, up, dn, op, tp, bt, nt, nb)) :
    wpY_told post (st, fa, fb, a, up, dn, op, tp, bt, nt, nb) (nI i) part := by
  have ei : (nI i).toNatClampNeg = i := nI_clamp (by omega)
  have vi : vp_in (nI i) 5 := vp_in_nI (by omega) (by decide)
  unfold wpY_told
  dsimp only
  rw [ei]
  exact ⟨vi, nm_e ⟨vi, nm_e (br_c h0 h1)⟩⟩
end
