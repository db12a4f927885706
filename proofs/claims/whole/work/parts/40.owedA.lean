/-! the relation; construction, set, reach, classOf, closed -/
def i_Rel (k : Nat) (u : SX) (v : SY) : Prop := ∃ (n : Nat) (w : Nat → Nat) (a su : Nat → Int32) (sy ov un : Nat → Int64) (fa fb : Int64) (up dn : Nat → Int64) (op : Nat → Int32) (tp bt nt nb : Nat → Int64),
  u = (nI n, a, su, sy, ov, un) ∧ v = (nI n, fa, fb, a, up, dn, op, tp, bt, nt, nb) ∧ cr_X n w a su
theorem i_up {k : Nat} {u : SX} {v : SY} (h : i_Rel k u v) : i_Rel (k + 5) u v := h
theorem ir_mk {n : Nat} {w : Nat → Nat} {a su : Nat → Int32} (k : Nat) (c : cr_X n w a su) (sy ov un : Nat → Int64) (fa fb : Int64) (up dn : Nat → Int64) (op : Nat → Int32) (tp bt nt nb : Nat → Int64) : i_Rel k (nI n, a, su, sy, ov, un) (nI n, fa, fb, a, up, dn, op, tp, bt, nt, nb) :=
  ⟨n, w, a, su, sy, ov, un, fa, fb, up, dn, op, tp, bt, nt, nb, rfl, rfl, c⟩
theorem ir_0 {n : Nat} (h1 : 1 ≤ n) (h5 : n ≤ 5) : cr_X n (fun _ => 0) (fun _ => 0) (fun _ => 0) :=
  ⟨⟨h1, h5, fun _ _ => Nat.zero_le 9, fun _ _ _ _ _ => rfl⟩, fun _ _ => rfl, fun _ _ => rfl⟩
theorem i_vc0 (k0 : Int32) : wpX_init (fun u => wpY_init (fun v => i_Rel 1 u v) k0) k0 := by
  by_cases h1 : 1 ≤ k0
  · by_cases h5 : k0 ≤ 5
    · have n0 : ¬ k0 < 0 := fun z => by
        have := Int32.lt_of_lt_of_le z (show (0 : Int32) ≤ 1 by decide)
        exact absurd h1 (Int32.not_le.mpr this)
      obtain ⟨n, hn, rfl⟩ := nI_of2 (M := 5) (n := 5) (by decide) n0 h5
      have n1 : 1 ≤ n := by
        rcases Nat.eq_zero_or_pos n with z | z
        · rw [z] at h1; exact absurd h1 (by decide)
        · exact z
      exact br_t h1 (br_t h5 (br_t h1 (br_t h5 (ir_mk 1 (ir_0 n1 hn) _ _ _ _ _ _ _ _ _ _ _ _))))
    · exact br_t h1 (br_f h5 (br_t h1 (br_f h5 (ir_mk (n := 5) 1 (ir_0 (by decide) (by decide)) _ _ _ _ _ _ _ _ _ _ _ _))))
  · exact br_f h1 (br_f h1 (ir_mk (n := 1) 1 (ir_0 (by decide) (by decide)) _ _ _ _ _ _ _ _ _ _ _ _))
theorem i_vc_reach {k : Nat} {u : SX} {v : SY} (I : i_Rel k u v) (hk : k + 5 ≤ 2561) (v1 : Int32) : wpX_reach (fun r => wpY_reach (fun r' => r' = r ∧ i_Rel (k + 5) u v) v v1) u v1 := by
  have J := i_up I
  obtain ⟨n, w, a, su, sy, ov, un, fa, fb, up, dn, op, tp, bt, nt, nb, rfl, rfl, c⟩ := I
  have h5 := c.1.2.1
  unfold wpX_reach wpY_reach
  dsimp only
  by_cases h : ∃ i, i < n ∧ v1 = nI i
  · obtain ⟨i, hi, rfl⟩ := h
    obtain ⟨m, hm⟩ := bm_exists n (gr_R n (fun x y => 0 < ch_sw w x y) (fun _ => False) i (n - 1))
    exact xm_st1 h5 hi (br_f (by decide) (xm_reached c hi hm (ym_st1 h5 hi (br_f (by decide) (ym_reached (cr_XY c) hi hm ⟨rfl, J⟩)))))
  · exact xm_st0 h5 h (br_t rfl (ym_st0 h5 h (br_t rfl ⟨rfl, J⟩)))
theorem i_vc_classOf {k : Nat} {u : SX} {v : SY} (I : i_Rel k u v) (hk : k + 5 ≤ 2561) (v1 : Int32) : wpX_classOf (fun r => wpY_classOf (fun r' => r' = r ∧ i_Rel (k + 5) u v) v v1) u v1 := by
  have J := i_up I
  obtain ⟨n, w, a, su, sy, ov, un, fa, fb, up, dn, op, tp, bt, nt, nb, rfl, rfl, c⟩ := I
  have h5 := c.1.2.1
  unfold wpX_classOf wpY_classOf
  dsimp only
  by_cases h : ∃ i, i < n ∧ v1 = nI i
  · obtain ⟨i, hi, rfl⟩ := h
    obtain ⟨m, hm⟩ := bm_exists n (gr_R n (fun x y => 0 < ch_sw w x y) (fun _ => False) i (n - 1))
    obtain ⟨l, hl⟩ := bm_exists n (fun j => gr_L n (fun x y => 0 < ch_sw w x y) (fun y => y = i) (fun _ => False) (n - 1) j ∧ ¬ j = i)
    refine xm_st1 h5 hi (br_f (by decide) (nm_r (bm_shl i (by omega)) (xm_reached c hi hm (xm_lead (b := 0) c (bm_one hi) (bm_zero n) hl ?_))))
    rw [bm_or, bm_and]
    refine ym_st1 h5 hi (br_f (by decide) (ym_class (cr_XY c) hi (bm_iff (bm_and2 hm (bm_or2 hl (bm_one hi))) (fun j hj => ?_)) ⟨rfl, J⟩))
    constructor
    · rintro ⟨r, (q | q)⟩
      · exact ⟨r, (gr_to hi hj (by omega)).mp q.1⟩
      · subst q; exact ⟨r, gr_R_up (Nat.zero_le _) (show gr_R n _ _ j 0 j from rfl)⟩
    · rintro ⟨r, q⟩
      refine ⟨r, ?_⟩
      by_cases e : j = i
      · exact .inr e
      · exact .inl ⟨(gr_to hi hj (by omega)).mpr q, e⟩
  · exact xm_st0 h5 h (br_t rfl (ym_st0 h5 h (br_t rfl ⟨rfl, J⟩)))
theorem i_vc_closed {k : Nat} {u : SX} {v : SY} (I : i_Rel k u v) (hk : k + 5 ≤ 2561) (v1 : Int32) : wpX_closed (fun r => wpY_closed (fun r' => r' = r ∧ i_Rel (k + 5) u v) v v1) u v1 := by
  have J := i_up I
  obtain ⟨n, w, a, su, sy, ov, un, fa, fb, up, dn, op, tp, bt, nt, nb, rfl, rfl, c⟩ := I
  have h5 := c.1.2.1
  unfold wpX_closed wpY_closed
  dsimp only
  by_cases h : ∃ i, i < n ∧ v1 = nI i
  · obtain ⟨i, hi, rfl⟩ := h
    refine xm_st1 h5 hi (br_f (by decide) (xm_closed c hi (fun q => ?_) (fun q => ?_)))
    · exact br_f (by decide) (ym_st1 h5 hi (br_f (by decide) (ym_closed (cr_XY c) hi (fun _ => br_f (by decide) ⟨rfl, J⟩) (fun z => absurd q z))))
    · exact br_t rfl (ym_st1 h5 hi (br_f (by decide) (ym_closed (cr_XY c) hi (fun z => absurd z q) (fun _ => br_t rfl ⟨rfl, J⟩))))
  · exact xm_st0 h5 h (br_t rfl (ym_st0 h5 h (br_t rfl ⟨rfl, J⟩)))
