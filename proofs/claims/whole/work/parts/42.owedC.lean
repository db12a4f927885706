/-! refusals; hit, before, time -/
theorem rf_of (x : Int32) : x = nI x.toBitVec.toNat := by
  apply Int32.toBitVec_inj.1
  show x.toBitVec = BitVec.ofNat 32 x.toBitVec.toNat
  simp
theorem rf_p2 {n : Nat} (h : n ≤ 5) : 2 ^ n ≤ 32 := Nat.pow_le_pow_right (n := 2) (i := n) (j := 5) (by decide) h
theorem rf_or {x y : Int32} {h n : Nat} (hn : n ≤ 5) (hh : h < 2 ^ n) (e : x ||| y = nI h) : (∃ g, g < 2 ^ n ∧ x = nI g) ∧ (∃ g, g < 2 ^ n ∧ y = nI g) := by
  have p : 2 ^ n ≤ 32 := rf_p2 hn
  have t : x.toBitVec.toNat ||| y.toBitVec.toNat = h := by
    have := congrArg (fun z : Int32 => z.toBitVec.toNat) e
    rw [Int32.toBitVec_or, BitVec.toNat_or] at this
    rw [this]
    exact Nat.mod_eq_of_lt (by omega)
  have l1 : x.toBitVec.toNat ≤ h := t ▸ Nat.left_le_or
  have l2 : y.toBitVec.toNat ≤ h := t ▸ Nat.right_le_or
  exact ⟨⟨_, by omega, rf_of x⟩, ⟨_, by omega, rf_of y⟩⟩
theorem fp_can {p q : Int} (hq : 0 < q) (bp : p.natAbs < 9223372036854775808) (bq : q < 9223372036854775808) : ∃ x y, fp_is x y p q := ⟨_, _, fp_mk hq bp bq rfl rfl⟩
section
variable {n : Nat} {w : Nat → Nat} {a su : Nat → Int32} {sy ov un : Nat → Int64} {fa fb : Int64} {up dn : Nat → Int64} {op : Nat → Int32} {tp bt nt nb : Nat → Int64}
theorem rf_x {post : Int32 → Prop} (h5 : n ≤ 5) {i j g : Nat} (hi : i < n) (hj : j < n) (hg : g < 2 ^ n) {part : Int32} (hp : part = 0 ∨ part = 1) (h : post 0) : wpX_refusal post (nI n, a, su, sy, ov, un) (nI i) (nI j) (nI g) part := by
  have p : 2 ^ n ≤ 32 := rf_p2 h5
  unfold wpX_refusal
  dsimp only
  rw [bm_shl n (by omega)]
  refine xm_st1 h5 hi (br_f (by decide) (xm_st1 h5 hj (br_f (by decide) (br_f (nI_pos (by omega)) (br_t (nI_lt hg (by omega)) ?_)))))
  rcases hp with e | e
  · exact br_t e h
  · exact br_f (by rw [e]; decide) (br_t e h)
theorem rf_y {post : Int32 → Prop} (h5 : n ≤ 5) {i g : Nat} (hi : i < n) (hg : g < 2 ^ n) {part : Int32} (hp : part = 0 ∨ part = 1) (h : post 0) : wpY_bad post (nI n, fa, fb, a, up, dn, op, tp, bt, nt, nb) (nI i) (nI g) part := by
  have p : 2 ^ n ≤ 32 := rf_p2 h5
  unfold wpY_bad wpY_isSet
  dsimp only
  rw [bm_shl n (by omega)]
  refine ym_st1 h5 hi (br_f (by decide) (br_f (nI_pos (by omega)) (br_f (nI_ge hg (by omega)) (br_f (by decide) ?_))))
  rcases hp with e | e
  · exact br_t e h
  · exact br_f (by rw [e]; decide) (br_t e h)
theorem rf_yp {post : Int32 → Prop} (h5 : n ≤ 5) {i j : Nat} (hi : i < n) (hj : j < n) {part : Int32} (hp : part = 0 ∨ part = 1) (h : post 0) : wpY_badPair post (nI n, fa, fb, a, up, dn, op, tp, bt, nt, nb) (nI i) (nI j) part := by
  unfold wpY_badPair
  dsimp only
  refine ym_st1 h5 hi (br_f (by decide) (ym_st1 h5 hj (br_f (by decide) ?_)))
  rcases hp with e | e
  · exact br_t e h
  · exact br_f (by rw [e]; decide) (br_t e h)
/-- a call with a state, a set and a part: either all is well, or both sides refuse with one answer -/
theorem rf_set (h5 : n ≤ 5) (v1 v2 v3 : Int32) : (∃ i g, i < n ∧ g < 2 ^ n ∧ v1 = nI i ∧ v2 = nI g ∧ (v3 = 0 ∨ v3 = 1)) ∨
    ∃ z : Int32, ¬ z = 0 ∧ ¬ 0 ≤ z ∧ (∀ post : Int32 → Prop, post z → wpX_refusal post (nI n, a, su, sy, ov, un) v1 v1 v2 v3) ∧ ∀ post : Int32 → Prop, post z → wpY_bad post (nI n, fa, fb, a, up, dn, op, tp, bt, nt, nb) v1 v2 v3 := by
  have p : 2 ^ n ≤ 32 := rf_p2 h5
  by_cases h : ∃ i, i < n ∧ v1 = nI i
  · obtain ⟨i, hi, rfl⟩ := h
    have setbad : (¬ ∃ g, g < 2 ^ n ∧ v2 = nI g) → v2 < 0 ∨ (¬ v2 < 0 ∧ nI (2 ^ n) ≤ v2) := by
      intro no
      rcases pk_ix v2 (n := 2 ^ n) (by omega) with z | z | z
      · exact .inl z
      · by_cases q : v2 < 0
        · exact .inl q
        · exact .inr ⟨q, z⟩
      · exact absurd z no
    by_cases hg : ∃ g, g < 2 ^ n ∧ v2 = nI g
    · obtain ⟨g, hg, rfl⟩ := hg
      by_cases hp : v3 = 0 ∨ v3 = 1
      · exact .inl ⟨i, g, hi, hg, rfl, rfl, hp⟩
      · refine .inr ⟨-3, by decide, by decide, fun post h => ?_, fun post h => ?_⟩
        · unfold wpX_refusal
          dsimp only
          rw [bm_shl n (by omega)]
          exact xm_st1 h5 hi (br_f (by decide) (xm_st1 h5 hi (br_f (by decide) (br_f (nI_pos (by omega)) (br_t (nI_lt hg (by omega)) (br_f (fun z => hp (.inl z)) (br_f (fun z => hp (.inr z)) h)))))))
        · unfold wpY_bad wpY_isSet
          dsimp only
          rw [bm_shl n (by omega)]
          exact ym_st1 h5 hi (br_f (by decide) (br_f (nI_pos (by omega)) (br_f (nI_ge hg (by omega)) (br_f (by decide) (br_f (fun z => hp (.inl z)) (br_f (fun z => hp (.inr z)) h))))))
    · refine .inr ⟨-2, by decide, by decide, fun post h => ?_, fun post h => ?_⟩
      · unfold wpX_refusal
        dsimp only
        rw [bm_shl n (by omega)]
        refine xm_st1 h5 hi (br_f (by decide) (xm_st1 h5 hi (br_f (by decide) ?_)))
        rcases setbad hg with z | ⟨z, y⟩
        · exact br_t z h
        · exact br_f z (br_f (Int32.not_lt.mpr y) h)
      · unfold wpY_bad wpY_isSet
        dsimp only
        rw [bm_shl n (by omega)]
        refine ym_st1 h5 hi (br_f (by decide) ?_)
        rcases setbad hg with z | ⟨z, y⟩
        · exact br_t z (br_t rfl h)
        · exact br_f z (br_t y (br_t rfl h))
  · refine .inr ⟨-1, by decide, by decide, fun post hp => ?_, fun post hp => ?_⟩
    · unfold wpX_refusal
      dsimp only
      exact xm_st0 h5 h (br_t rfl hp)
    · unfold wpY_bad
      dsimp only
      exact ym_st0 h5 h (br_t rfl hp)
theorem rf_pair (h5 : n ≤ 5) (v1 v2 v3 : Int32) : (∃ i j, i < n ∧ j < n ∧ v1 = nI i ∧ v2 = nI j ∧ (v3 = 0 ∨ v3 = 1)) ∨
    ∃ z : Int32, ¬ z = 0 ∧ ¬ 0 ≤ z ∧ (∀ post : Int32 → Prop, post z → wpX_refusal post (nI n, a, su, sy, ov, un) v1 v2 0 v3) ∧ ∀ post : Int32 → Prop, post z → wpY_badPair post (nI n, fa, fb, a, up, dn, op, tp, bt, nt, nb) v1 v2 v3 := by
  have p : 2 ^ n ≤ 32 := rf_p2 h5
  have p1 := Nat.two_pow_pos n
  by_cases h : ∃ i, i < n ∧ v1 = nI i
  · obtain ⟨i, hi, rfl⟩ := h
    by_cases h2 : ∃ j, j < n ∧ v2 = nI j
    · obtain ⟨j, hj, rfl⟩ := h2
      by_cases hp : v3 = 0 ∨ v3 = 1
      · exact .inl ⟨i, j, hi, hj, rfl, rfl, hp⟩
      · refine .inr ⟨-3, by decide, by decide, fun post h => ?_, fun post h => ?_⟩
        · unfold wpX_refusal
          dsimp only
          rw [bm_shl n (by omega)]
          exact xm_st1 h5 hi (br_f (by decide) (xm_st1 h5 hj (br_f (by decide) (br_f (by decide) (br_t (nI_lt (a := 0) p1 (by omega)) (br_f (fun z => hp (.inl z)) (br_f (fun z => hp (.inr z)) h)))))))
        · unfold wpY_badPair
          dsimp only
          exact ym_st1 h5 hi (br_f (by decide) (ym_st1 h5 hj (br_f (by decide) (br_f (fun z => hp (.inl z)) (br_f (fun z => hp (.inr z)) h)))))
    · refine .inr ⟨-1, by decide, by decide, fun post hp => ?_, fun post hp => ?_⟩
      · unfold wpX_refusal
        dsimp only
        exact xm_st1 h5 hi (br_f (by decide) (xm_st0 h5 h2 (br_t rfl hp)))
      · unfold wpY_badPair
        dsimp only
        exact ym_st1 h5 hi (br_f (by decide) (ym_st0 h5 h2 (br_t rfl hp)))
  · refine .inr ⟨-1, by decide, by decide, fun post hp => ?_, fun post hp => ?_⟩
    · unfold wpX_refusal
      dsimp only
      exact xm_st0 h5 h (br_t rfl hp)
    · unfold wpY_badPair
      dsimp only
      exact ym_st0 h5 h (br_t rfl hp)
end
theorem i_vc_hit {k : Nat} {u : SX} {v : SY} (I : i_Rel k u v) (hk : k + 5 ≤ 2561) (v1 : Int32) (v2 : Int32) (v3 : Int32) : wpX_hit (fun r u' => wpY_hit (fun r' v' => r' = r ∧ i_Rel (k + 5) u' v') v v1 v2 v3) u v1 v2 v3 := by
  have J := i_up I
  obtain ⟨n, w, a, su, sy, ov, un, fa, fb, up, dn, op, tp, bt, nt, nb, rfl, rfl, c⟩ := I
  have h5 := c.1.2.1
  unfold wpX_hit wpY_hit
  dsimp only
  rcases rf_set (n := n) (a := a) (su := su) (sy := sy) (ov := ov) (un := un) (fa := fa) (fb := fb) (up := up) (dn := dn) (op := op) (tp := tp) (bt := bt) (nt := nt) (nb := nb) h5 v1 v2 v3 with ⟨i, g, hi, hg, rfl, rfl, hpart⟩ | ⟨z, z0, z1, hX, hY⟩
  · obtain ⟨m, hm⟩ := bm_exists n (fun i => gr_L n (fun x y => 0 < ch_sw w x y) (fun y => g.testBit y = true) (fun _ => False) (n - 1) i ∧ ¬ g.testBit i = true)
    refine rf_x h5 hi hi hg hpart (br_t rfl (xm_chances (b := 0) c hg (bm_zero n) hm (fun r sy' hs => ?_)))
    have hok := sv_of c.1 r
    have dis : ∀ s, s < n → m.testBit s = true → g.testBit s = false := fun s hs t => by
      have := ((hm.2 s hs).mp t).2
      simpa using this
    have Db := sv_Db c.1 r
    have H0 := sv_H_nonneg (U := fun s => m.testBit s) (G := fun s => g.testBit s) hok hi
    have H1 := sv_H_le (U := fun s => m.testBit s) (G := fun s => g.testBit s) c.1 hok dis hi
    obtain ⟨x, y, f⟩ := fp_can (p := sv_H n w (fun s => m.testBit s) (fun s => g.testBit s) i) Db.1 (by omega) (by omega)
    dsimp only
    refine xm_solved (by omega) (hs i hi).2 (hs i hi).1 H0 Db.1 (by omega) (by omega) f (fun q => ?_) (fun q => ?_)
    · refine rf_y h5 hi hg hpart (br_t (by decide) (ym_chances (b := 0) (cr_XY c) hg (bm_zero n) hm (fun _ fa' fb' up' dn' op' tp' bt' k0 => ?_)))
      have eq := (fp_uniq Db.1 Db.1 (k0 i hi) f).mpr rfl
      dsimp only
      exact ym_told (by omega) (fun _ => ⟨eq.1, ir_mk (k + 5) c _ _ _ _ _ _ _ _ _ _ _ _⟩) (fun z => absurd q z)
    · refine rf_y h5 hi hg hpart (br_t (by decide) (ym_chances (b := 0) (cr_XY c) hg (bm_zero n) hm (fun _ fa' fb' up' dn' op' tp' bt' k0 => ?_)))
      have eq := (fp_uniq Db.1 Db.1 (k0 i hi) f).mpr rfl
      dsimp only
      exact ym_told (by omega) (fun z => absurd z q) (fun _ => ⟨eq.2, ir_mk (k + 5) c _ _ _ _ _ _ _ _ _ _ _ _⟩)
  · exact hX _ (br_f z0 (hY _ (br_f z1 ⟨rfl, J⟩)))
theorem i_vc_before {k : Nat} {u : SX} {v : SY} (I : i_Rel k u v) (hk : k + 5 ≤ 2561) (v1 : Int32) (v2 : Int32) (v3 : Int32) (v4 : Int32) : wpX_before (fun r u' => wpY_before (fun r' v' => r' = r ∧ i_Rel (k + 5) u' v') v v1 v2 v3 v4) u v1 v2 v3 v4 := by
  have J := i_up I
  obtain ⟨n, w, a, su, sy, ov, un, fa, fb, up, dn, op, tp, bt, nt, nb, rfl, rfl, c⟩ := I
  have h5 := c.1.2.1
  have p := rf_p2 h5
  unfold wpX_before wpY_before wpY_isSet
  dsimp only
  rw [bm_shl n (by omega)]
  have notset : ∀ x : Int32, (¬ ∃ g, g < 2 ^ n ∧ x = nI g) → x < 0 ∨ (¬ x < 0 ∧ nI (2 ^ n) ≤ x) := by
    intro x no
    rcases pk_ix x (n := 2 ^ n) (by omega) with z | z | z
    · exact .inl z
    · by_cases q : x < 0
      · exact .inl q
      · exact .inr ⟨q, z⟩
    · exact absurd z no
  by_cases h1 : ∃ i, i < n ∧ v1 = nI i
  · obtain ⟨i, hi, rfl⟩ := h1
    by_cases h2 : (∃ g, g < 2 ^ n ∧ v2 = nI g) ∧ ∃ b, b < 2 ^ n ∧ v3 = nI b
    · obtain ⟨⟨g, hg, rfl⟩, ⟨b, hb, rfl⟩⟩ := h2
      have hgb : g ||| b < 2 ^ n := Nat.or_lt_two_pow hg hb
      by_cases hpart : v4 = 0 ∨ v4 = 1
      · rw [bm_or, bm_and]
        refine rf_x h5 hi hi hgb hpart (br_t rfl ?_)
        have hbm : bm_is n b (fun y => b.testBit y = true) := ⟨hb, fun _ _ => Iff.rfl⟩
        have hgm : bm_is n g (fun y => g.testBit y = true) := ⟨hg, fun _ _ => Iff.rfl⟩
        have ha := bm_and2 hgm hbm
        have lt : g &&& b < 2 ^ 31 := Nat.lt_trans (bm_lt ha h5) (by decide)
        by_cases z : g &&& b = 0
        · refine br_t (by rw [z]; rfl) ?_
          obtain ⟨m, hm⟩ := bm_exists n (fun i => gr_L n (fun x y => 0 < ch_sw w x y) (fun y => g.testBit y = true) (fun y => b.testBit y = true) (n - 1) i ∧ ¬ g.testBit i = true)
          refine xm_chances c hg hbm hm (fun r sy' hs => ?_)
          have hok := sv_of c.1 r
          have dis : ∀ s, s < n → m.testBit s = true → g.testBit s = false := fun s hs t => by
            have := ((hm.2 s hs).mp t).2
            simpa using this
          have Db := sv_Db c.1 r
          have H0 := sv_H_nonneg (U := fun s => m.testBit s) (G := fun s => g.testBit s) hok hi
          have H1 := sv_H_le (U := fun s => m.testBit s) (G := fun s => g.testBit s) c.1 hok dis hi
          obtain ⟨x, y, f⟩ := fp_can (p := sv_H n w (fun s => m.testBit s) (fun s => g.testBit s) i) Db.1 (by omega) (by omega)
          dsimp only
          refine xm_solved (by omega) (hs i hi).2 (hs i hi).1 H0 Db.1 (by omega) (by omega) f (fun q => ?_) (fun q => ?_)
          · refine ym_st1 h5 hi (br_f (by decide) (br_f (nI_pos (by omega)) (br_f (nI_ge hg (by omega)) (br_f (by decide) (br_f (nI_pos (by omega)) (br_f (nI_ge hb (by omega)) (br_f (by decide) (br_t q ?_))))))))
            unfold wY_before_47
            rw [bm_and]
            refine br_t (by rw [z]; rfl) (ym_chances (cr_XY c) hg hbm hm (fun _ fa' fb' up' dn' op' tp' bt' k0 => ?_))
            have eq := (fp_uniq Db.1 Db.1 (k0 i hi) f).mpr rfl
            dsimp only
            exact ym_told (by omega) (fun _ => ⟨eq.1, ir_mk (k + 5) c _ _ _ _ _ _ _ _ _ _ _ _⟩) (fun z => absurd q z)
          · refine ym_st1 h5 hi (br_f (by decide) (br_f (nI_pos (by omega)) (br_f (nI_ge hg (by omega)) (br_f (by decide) (br_f (nI_pos (by omega)) (br_f (nI_ge hb (by omega)) (br_f (by decide) (br_f q (br_t (hpart.resolve_left q) ?_)))))))))
            unfold wY_before_47
            rw [bm_and]
            refine br_t (by rw [z]; rfl) (ym_chances (cr_XY c) hg hbm hm (fun _ fa' fb' up' dn' op' tp' bt' k0 => ?_))
            have eq := (fp_uniq Db.1 Db.1 (k0 i hi) f).mpr rfl
            dsimp only
            exact ym_told (by omega) (fun z => absurd z q) (fun _ => ⟨eq.2, ir_mk (k + 5) c _ _ _ _ _ _ _ _ _ _ _ _⟩)
        · refine br_f (fun q => z ((cw_0 lt).mp q)) ?_
          refine ym_st1 h5 hi (br_f (by decide) (br_f (nI_pos (by omega)) (br_f (nI_ge hg (by omega)) (br_f (by decide) (br_f (nI_pos (by omega)) (br_f (nI_ge hb (by omega)) (br_f (by decide) (br_c (fun _ => ?_) (fun q => br_t (hpart.resolve_left q) ?_)))))))))
          · unfold wY_before_47
            rw [bm_and]
            exact br_f (fun q => z ((cw_0 lt).mp q)) ⟨rfl, J⟩
          · unfold wY_before_47
            rw [bm_and]
            exact br_f (fun q => z ((cw_0 lt).mp q)) ⟨rfl, J⟩
      · skip
        rw [bm_or]
        unfold wpX_refusal
        dsimp only
        rw [bm_shl n (by omega)]
        refine xm_st1 h5 hi (br_f (by decide) (xm_st1 h5 hi (br_f (by decide) (br_f (nI_pos (by omega)) (br_t (nI_lt hgb (by omega)) (br_f (fun z => hpart (.inl z)) (br_f (fun z => hpart (.inr z)) (br_f (by decide) ?_))))))))
        exact ym_st1 h5 hi (br_f (by decide) (br_f (nI_pos (by omega)) (br_f (nI_ge hg (by omega)) (br_f (by decide) (br_f (nI_pos (by omega)) (br_f (nI_ge hb (by omega)) (br_f (by decide) (br_f (fun z => hpart (.inl z)) (br_f (fun z => hpart (.inr z)) ⟨rfl, J⟩)))))))))
    · have bad : ¬ ∃ g, g < 2 ^ n ∧ v2 ||| v3 = nI g := by
        rintro ⟨g, hg, e⟩
        exact h2 (rf_or h5 hg e)
      unfold wpX_refusal
      dsimp only
      rw [bm_shl n (by omega)]
      refine xm_st1 h5 hi (br_f (by decide) (xm_st1 h5 hi (br_f (by decide) ?_)))
      by_cases hg : ∃ g, g < 2 ^ n ∧ v2 = nI g
      · have hb : ¬ ∃ b, b < 2 ^ n ∧ v3 = nI b := fun z => h2 ⟨hg, z⟩
        obtain ⟨g, hg, rfl⟩ := hg
        rcases notset _ bad with z | ⟨z, y⟩
        · refine br_t z (br_f (by decide) (ym_st1 h5 hi (br_f (by decide) (br_f (nI_pos (by omega)) (br_f (nI_ge hg (by omega)) (br_f (by decide) ?_))))))
          rcases notset v3 hb with q | ⟨q, r⟩
          · exact br_t q (br_t rfl ⟨rfl, J⟩)
          · exact br_f q (br_t r (br_t rfl ⟨rfl, J⟩))
        · refine br_f z (br_f (Int32.not_lt.mpr y) (br_f (by decide) (ym_st1 h5 hi (br_f (by decide) (br_f (nI_pos (by omega)) (br_f (nI_ge hg (by omega)) (br_f (by decide) ?_)))))))
          rcases notset v3 hb with q | ⟨q, r⟩
          · exact br_t q (br_t rfl ⟨rfl, J⟩)
          · exact br_f q (br_t r (br_t rfl ⟨rfl, J⟩))
      · rcases notset _ bad with z | ⟨z, y⟩
        · refine br_t z (br_f (by decide) (ym_st1 h5 hi (br_f (by decide) ?_)))
          rcases notset v2 hg with q | ⟨q, r⟩
          · exact br_t q (br_t rfl ⟨rfl, J⟩)
          · exact br_f q (br_t r (br_t rfl ⟨rfl, J⟩))
        · refine br_f z (br_f (Int32.not_lt.mpr y) (br_f (by decide) (ym_st1 h5 hi (br_f (by decide) ?_))))
          rcases notset v2 hg with q | ⟨q, r⟩
          · exact br_t q (br_t rfl ⟨rfl, J⟩)
          · exact br_f q (br_t r (br_t rfl ⟨rfl, J⟩))
  · unfold wpX_refusal
    dsimp only
    exact xm_st0 h5 h1 (br_t rfl (br_f (by decide) (ym_st0 h5 h1 (br_t rfl ⟨rfl, J⟩))))
