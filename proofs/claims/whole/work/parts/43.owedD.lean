/-! time and visits -/
theorem pt_of {v3 : Int32} (h : v3 = 0 ∨ v3 = 1) (q : ¬ v3 = 0) : v3 = 1 := h.resolve_left q
theorem i_vc_time {k : Nat} {u : SX} {v : SY} (I : i_Rel k u v) (hk : k + 5 ≤ 2561) (v1 : Int32) (v2 : Int32) (v3 : Int32) : wpX_time (fun r u' => wpY_time (fun r' v' => r' = r ∧ i_Rel (k + 5) u' v') v v1 v2 v3) u v1 v2 v3 := by
  have J := i_up I
  obtain ⟨n, w, a, su, sy, ov, un, fa, fb, up, dn, op, tp, bt, nt, nb, rfl, rfl, c⟩ := I
  have h5 := c.1.2.1
  unfold wpX_time wpY_time
  dsimp only
  rcases rf_set (n := n) (a := a) (su := su) (sy := sy) (ov := ov) (un := un) (fa := fa) (fb := fb) (up := up) (dn := dn) (op := op) (tp := tp) (bt := bt) (nt := nt) (nb := nb) h5 v1 v2 v3 with ⟨i, g, hi, hg, rfl, rfl, hpart⟩ | ⟨z, z0, z1, hX, hY⟩
  · obtain ⟨m, hm⟩ := bm_exists n (fun i => gr_L n (fun x y => 0 < ch_sw w x y) (fun y => g.testBit y = true) (fun _ => False) (n - 1) i ∧ ¬ g.testBit i = true)
    refine rf_x h5 hi hi hg hpart (br_t rfl (xm_chances (b := 0) c hg (bm_zero n) hm (fun r sy' hs => ?_)))
    have hok := sv_of c.1 r
    have dis : ∀ s, s < n → m.testBit s = true → g.testBit s = false := fun s hs t => by
      have := ((hm.2 s hs).mp t).2
      simpa using this
    have Db := sv_Db c.1 r
    have H0 := sv_H_nonneg (U := fun s => m.testBit s) (G := fun s => g.testBit s) hok hi
    have H1 := sv_H_le (U := fun s => m.testBit s) (G := fun s => g.testBit s) c.1 hok dis hi
    have d5 : (nI i * 6 + 5).toNatClampNeg = 6 * i + 5 := by
      rw [show nI i * 6 + 5 = nI (6 * i + 5) from ix_6 i 5]; exact nI_clamp (by omega)
    have v5 : vp_in (nI i * 6 + 5) 30 := by rw [show nI i * 6 + 5 = nI (6 * i + 5) from ix_6 i 5]; exact vp_in_nI (by omega) (by decide)
    have di : (nI i * 6 + nI i).toNatClampNeg = 6 * i + i := by rw [ix_6]; exact nI_clamp (by omega)
    dsimp only
    refine ⟨v5, by rw [ix_6]; exact vp_in_nI (by omega) (by decide), ?_⟩
    rw [d5, di, (hs i hi).1, (hs i hi).2]
    by_cases e : sv_H n w (fun s => m.testBit s) (fun s => g.testBit s) i = sv_D n w (fun s => m.testBit s)
    · refine br_t (by rw [e]) (xm_times c hg hm (fun _ sy2 hs2 => ?_))
      have Tb : 0 ≤ (if m.testBit i = true then sv_F n w (fun s => m.testBit s) i (fun t => (ch_tot w t : Int)) else 0) ∧ (if m.testBit i = true then sv_F n w (fun s => m.testBit s) i (fun t => (ch_tot w t : Int)) else 0).natAbs ≤ 98415000 := by
        split
        · rename_i mi
          refine ⟨sv_nonneg hok hi mi (fun t _ _ => by omega), sv_Fb c.1 hi mi (fun t ht _ => ?_)⟩
          have := ch_tot_le c.1 (i := t) (by omega)
          omega
        · exact ⟨Int.le_refl _, by decide⟩
      obtain ⟨x, y, f⟩ := fp_can (p := if m.testBit i = true then sv_F n w (fun s => m.testBit s) i (fun t => (ch_tot w t : Int)) else 0) Db.1 (by omega) (by omega)
      dsimp only
      refine xm_solved (by omega) (hs2 i hi).2 (hs2 i hi).1 Tb.1 Db.1 (by omega) (by omega) f (fun q => ?_) (fun q => ?_)
      · refine rf_y h5 hi hg hpart (br_t (by decide) (ym_times (cr_XY c) hg hm (fun _ fa' fb' up' dn' op' tp' bt' k0 => ?_)))
        have eq := (fp_uniq Db.1 Db.1 ((k0 i hi).1 e) f).mpr rfl
        dsimp only
        exact ym_told (by omega) (fun _ => ⟨eq.1, ir_mk (k + 5) c _ _ _ _ _ _ _ _ _ _ _ _⟩) (fun z => absurd q z)
      · refine rf_y h5 hi hg hpart (br_t (by decide) (ym_times (cr_XY c) hg hm (fun _ fa' fb' up' dn' op' tp' bt' k0 => ?_)))
        have eq := (fp_uniq Db.1 Db.1 ((k0 i hi).1 e) f).mpr rfl
        dsimp only
        exact ym_told (by omega) (fun z => absurd z q) (fun _ => ⟨eq.2, ir_mk (k + 5) c _ _ _ _ _ _ _ _ _ _ _ _⟩)
    · refine br_f (fun q => e ((lz_eq (by omega) (by omega)).mp q)) (xm_partInf (fun q => ?_) (fun q => ?_))
      · refine rf_y h5 hi hg hpart (br_t (by decide) (ym_times (cr_XY c) hg hm (fun _ fa' fb' up' dn' op' tp' bt' k0 => ?_)))
        dsimp only
        exact ym_told (by omega) (fun _ => ⟨((k0 i hi).2 e).1, ir_mk (k + 5) c _ _ _ _ _ _ _ _ _ _ _ _⟩) (fun z => absurd q z)
      · refine rf_y h5 hi hg hpart (br_t (by decide) (ym_times (cr_XY c) hg hm (fun _ fa' fb' up' dn' op' tp' bt' k0 => ?_)))
        dsimp only
        exact ym_told (by omega) (fun z => absurd z q) (fun _ => ⟨((k0 i hi).2 e).2, ir_mk (k + 5) c _ _ _ _ _ _ _ _ _ _ _ _⟩)
  · exact hX _ (br_f z0 (hY _ (br_f z1 ⟨rfl, J⟩)))
theorem gr_R_cat {n : Nat} {E : Nat → Nat → Prop} {i j : Nat} {k : Nat} (h : gr_R n E (fun _ => False) i k j) : ∀ m y, gr_R n E (fun _ => False) j m y → gr_R n E (fun _ => False) i (k + m) y := by
  intro m
  induction m with
  | zero => intro y hy; rw [show y = j from hy]; exact h
  | succ m ih =>
    intro y hy
    rcases hy with q | ⟨a, x, hx, r, b, e⟩
    · exact .inl (ih y q)
    · exact .inr ⟨a, x, hx, ih x r, b, e⟩
theorem bt_one (j : Nat) : (fun s => (2 ^ j).testBit s) = fun s => decide (s = j) := by
  funext s
  rw [Nat.testBit_two_pow]
  simp [eq_comm]
theorem bt_oneP (j : Nat) : (fun y => (2 ^ j).testBit y = true) = fun y => y = j := by
  funext y
  rw [Nat.testBit_two_pow]
  simp [eq_comm]
theorem bt_oneM {n : Nat} {w : Nat → Nat} {j m : Nat} (hm : bm_is n m (fun i => gr_L n (fun x y => 0 < ch_sw w x y) (fun y => y = j) (fun _ => False) (n - 1) i ∧ ¬ i = j)) : bm_is n m (fun i => gr_L n (fun x y => 0 < ch_sw w x y) (fun y => (2 ^ j).testBit y = true) (fun _ => False) (n - 1) i ∧ ¬ (2 ^ j).testBit i = true) := by
  refine bm_iff hm (fun i _ => ?_)
  rw [bt_oneP]
  have : ((2 ^ j).testBit i = true) = (i = j) := congrFun (bt_oneP j) i
  rw [this]
theorem vi_rank {n : Nat} {w : Nat → Nat} (ok : ch_ok n w) {j m : Nat} (hj : j < n) (hm : bm_is n m (fun i => gr_L n (fun x y => 0 < ch_sw w x y) (fun y => y = j) (fun _ => False) (n - 1) i)) (no : ¬ gr_cl n w j) : sv_rank n w (fun s => m.testBit s) := by
  have ex : ∃ z, z < n ∧ gr_R n (fun x y => 0 < ch_sw w x y) (fun _ => False) j (n - 1) z ∧ ¬ gr_L n (fun x y => 0 < ch_sw w x y) (fun y => y = j) (fun _ => False) (n - 1) z := by
    apply Classical.byContradiction
    intro h
    apply no
    intro z hz r
    apply Classical.byContradiction
    intro l
    exact h ⟨z, hz, r, l⟩
  obtain ⟨z, hz, rz, lz⟩ := ex
  refine gr_rank_of ok (G := fun y => !m.testBit y) (B := fun _ => False) (fun s hs => ⟨fun t => ⟨?_, by simp [t]⟩, fun t => by simpa using t.2⟩)
  rw [gr_lead (T := fun _ => False) (q := n - 1 + (n - 1)) (fun _ z => z.elim) (fun _ z => z) hs (by omega)]
  refine ⟨z, hz, ?_, gr_R_cat ((gr_to hj hs (by omega)).mp ((hm.2 s hs).mp t)) _ _ rz⟩
  cases e : m.testBit z
  · rfl
  · exact absurd ((hm.2 z hz).mp e) lz
theorem vi_frac {H Dv F D num den m R S V t : Int} (hm : 0 < m) (e1 : S = num * m) (e2 : V = den * m) (hV : V = t * D) (hR : R = V - S) (e : t * H * Dv = R * F) : H * den * Dv = F * (D * (den - num)) := by
  apply ba_cancel hm
  have a : m * (H * den * Dv) = H * Dv * V := by rw [e2]; grind
  have b : m * (F * (D * (den - num))) = F * D * R := by rw [hR, e1, e2]; grind
  rw [a, b, hV]
  have : H * Dv * (t * D) = D * (t * H * Dv) := by grind
  rw [this, e]; grind
theorem i_vc_visits {k : Nat} {u : SX} {v : SY} (I : i_Rel k u v) (hk : k + 5 ≤ 2561) (v1 : Int32) (v2 : Int32) (v3 : Int32) : wpX_visits (fun r u' => wpY_visits (fun r' v' => r' = r ∧ i_Rel (k + 5) u' v') v v1 v2 v3) u v1 v2 v3 := by
  have J := i_up I
  obtain ⟨n, w, a, su, sy, ov, un, fa, fb, up, dn, op, tp, bt, nt, nb, rfl, rfl, c⟩ := I
  have h5 := c.1.2.1
  unfold wpX_visits
  dsimp only
  rcases rf_pair (n := n) (a := a) (su := su) (sy := sy) (ov := ov) (un := un) (fa := fa) (fb := fb) (up := up) (dn := dn) (op := op) (tp := tp) (bt := bt) (nt := nt) (nb := nb) h5 v1 v2 v3 with ⟨i, j, hi, hj, rfl, rfl, hpart⟩ | ⟨z, z0, z1, hX, hY⟩
  · obtain ⟨r, hr⟩ := bm_exists n (gr_R n (fun x y => 0 < ch_sw w x y) (fun _ => False) i (n - 1))
    refine rf_x (g := 0) h5 hi hj (Nat.two_pow_pos n) hpart (br_t rfl (xm_reached c hi hr (xm_has (bm_lt hr h5) (by omega) (fun tr => ?_) (fun tr => ?_))))
    · refine br_f (by decide) (xm_closed c hj (fun cl => ?_) (fun ncl => ?_))
      · refine br_f (by decide) (xm_partInf (fun q => ?_) (fun q => ?_))
        · unfold wpY_visits
          dsimp only
          refine rf_yp h5 hi hj hpart (br_t (by decide) (ym_reached (cr_XY c) hi hr (ym_in (bm_lt hr h5) (by omega) (fun _ => br_f (by decide) (ym_closed (cr_XY c) hj (fun _ => br_f (by decide) ⟨?_, J⟩) (fun z => absurd cl z))) (fun z => by rw [tr] at z; cases z))))
          rw [q]; rfl
        · unfold wpY_visits
          dsimp only
          refine rf_yp h5 hi hj hpart (br_t (by decide) (ym_reached (cr_XY c) hi hr (ym_in (bm_lt hr h5) (by omega) (fun _ => br_f (by decide) (ym_closed (cr_XY c) hj (fun _ => br_f (by decide) ⟨?_, J⟩) (fun z => absurd cl z))) (fun z => by rw [tr] at z; cases z))))
          rw [pt_of hpart q]; rfl
      · obtain ⟨m, hm⟩ := bm_exists n (fun i => gr_L n (fun x y => 0 < ch_sw w x y) (fun y => y = j) (fun _ => False) (n - 1) i)
        obtain ⟨l, hl⟩ := bm_exists n (fun i => gr_L n (fun x y => 0 < ch_sw w x y) (fun y => y = j) (fun _ => False) (n - 1) i ∧ ¬ i = j)
        have rV := vi_rank c.1 hj hm ncl
        have rU : sv_rank n w (fun s => l.testBit s) := gr_rank_of c.1 (G := fun y => (2 ^ j).testBit y) (B := fun _ => False) (fun s hs => (bt_oneM hl).2 s hs)
        have hU := sv_of c.1 rU
        have hVok := sv_of c.1 rV
        have DU := sv_Db c.1 rU
        have DV := sv_Db c.1 rV
        have mj : m.testBit j = true := (hm.2 j hj).mpr (gr_L_up (Nat.zero_le _) (show gr_L n _ _ _ 0 j from rfl))
        have mi : m.testBit i = true := (hm.2 i hi).mpr ((gr_to hj hi (by omega)).mpr ((hr.2 j hj).mp tr))
        have vis := sv_visit c.1 (U := fun s => l.testBit s) (V := fun s => m.testBit s) hj rU rV (fun s hs => by
          have a1 := hl.2 s hs
          have a2 := hm.2 s hs
          dsimp only at a1 a2 ⊢
          rw [a1, a2]) mj
        dsimp only at vis
        obtain ⟨R0, vis⟩ := vis
        have vi := vis i hi mi
        have F0 := sv_nonneg (U := fun s => m.testBit s) hVok hi mi (v := fun t => if t = j then (ch_tot w j : Int) else 0) (fun t _ _ => by split <;> omega)
        have Fb := sv_Fb (U := fun s => m.testBit s) c.1 hi mi (v := fun t => if t = j then (ch_tot w j : Int) else 0) (fun t _ _ => by
          have := ch_tot_le c.1 (i := j) (by omega)
          split <;> omega)
        obtain ⟨x, y, f⟩ := fp_can (p := sv_F n w (fun s => m.testBit s) i (fun t => if t = j then (ch_tot w j : Int) else 0)) DV.1 (by omega) (by omega)
        refine br_t rfl (xm_visits c hj hm rV (fun sy' hs => ?_))
        have e5 := (hs i hi).2
        rw [if_pos mi] at e5
        have dis : ∀ s, s < n → l.testBit s = true → (fun s => decide (s = j)) s = false := fun s hs t => by
          have := ((hl.2 s hs).mp t).2
          simpa using this
        have Hb : ∀ s, s < n → 0 ≤ sv_H n w (fun s => l.testBit s) (fun s => decide (s = j)) s ∧ sv_H n w (fun s => l.testBit s) (fun s => decide (s = j)) s ≤ sv_D n w (fun s => l.testBit s) := fun s hs => ⟨sv_H_nonneg hU hs, sv_H_le (U := fun s => l.testBit s) c.1 hU dis hs⟩
        have tl := ch_tot_le c.1 (i := j) (by omega)
        have t1 := ch_tot_pos w j
        have V0 : 0 < (ch_tot w j : Int) * sv_D n w (fun s => l.testBit s) := Int.mul_pos (by omega) DU.1
        have Vb : (ch_tot w j : Int) * sv_D n w (fun s => l.testBit s) ≤ 45 * 4100625 := Int.mul_le_mul (by omega) DU.2 (by omega) (by omega)
        have walk : ∀ (post : Int64 → SY → Prop), (∀ fa' fb' up' dn' op' tp' bt', (v3 = 0 → post x (nI n, fa', fb', a, up', dn', op', tp', bt', nt, nb)) ∧ (¬ v3 = 0 → post y (nI n, fa', fb', a, up', dn', op', tp', bt', nt, nb))) → wpY_visits post (nI n, fa, fb, a, up, dn, op, tp, bt, nt, nb) (nI i) (nI j) v3 := by
          intro post hpost
          unfold wpY_visits
          dsimp only
          refine rf_yp h5 hi hj hpart (br_t (by decide) (ym_reached (cr_XY c) hi hr (ym_in (bm_lt hr h5) (by omega) (fun _ => br_f (by decide) (ym_closed (cr_XY c) hj (fun z => absurd z ncl) (fun _ => br_t rfl ?_))) (fun z => by rw [tr] at z; cases z))))
          rw [bm_shl j (by omega)]
          refine ym_chances (b := 0) (cr_XY c) (bm_one hj).1 (bm_zero n) (bt_oneM hl) (fun _ fa' fb' up' dn' op' tp' bt' k0 => ?_)
          rw [bt_one] at k0
          have ei : (nI i).toNatClampNeg = i := nI_clamp (by omega)
          have vpi : vp_in (nI i) 5 := vp_in_nI (by omega) (by decide)
          dsimp only
          rw [ei]
          refine ⟨vpi, nm_e ⟨vpi, nm_e ?_⟩⟩
          refine ym_mean (cr_XY c) hj (P := sv_H n w (fun s => l.testBit s) (fun s => decide (s = j))) (Q := sv_D n w (fun s => l.testBit s)) DU.1 (by omega) (fun s hs => by have := Hb s hs; omega) (fun s hs _ => k0 s hs) (fun x1 y1 f1 => ?_)
          dsimp only
          obtain ⟨rfl, rfl, g3, g4⟩ := f1
          obtain ⟨mm, hmm, e1, e2⟩ := fr_ex (ba_S (fun k => (ch_sw w j k : Int) * sv_H n w (fun s => l.testBit s) (fun s => decide (s = j)) k) n) V0
          have dp := fr_den_pos (ba_S (fun k => (ch_sw w j k : Int) * sv_H n w (fun s => l.testBit s) (fun s => decide (s = j)) k) n) ((ch_tot w j : Int) * sv_D n w (fun s => l.testBit s))
          have dl := (fr_le (ba_S (fun k => (ch_sw w j k : Int) * sv_H n w (fun s => l.testBit s) (fun s => decide (s = j)) k) n) V0).2
          have S0 : 0 ≤ ba_S (fun k => (ch_sw w j k : Int) * sv_H n w (fun s => l.testBit s) (fun s => decide (s = j)) k) n := ba_S_nonneg (fun s hs => Int.mul_nonneg (by omega) (Hb s hs).1)
          generalize hRat : Rat.divInt (ba_S (fun k => (ch_sw w j k : Int) * sv_H n w (fun s => l.testBit s) (fun s => decide (s = j)) k) n) ((ch_tot w j : Int) * sv_D n w (fun s => l.testBit s)) = rr at *
          have n0 : 0 ≤ rr.num := by
            rw [e1] at S0
            exact Int.le_of_mul_le_mul_right (by simpa using S0) hmm
          have lt : 0 < (rr.den : Int) - rr.num := by
            have q : 0 < ((rr.den : Int) - rr.num) * mm := by
              rw [Int.sub_mul, ← e1, ← e2]; exact R0
            exact Int.pos_of_mul_pos_left q hmm
          rw [← Int64.ofInt_sub]
          have Hi := Hb i hi
          have p1 : (sv_H n w (fun s => l.testBit s) (fun s => decide (s = j)) i * (rr.den : Int)).natAbs ≤ 4100625 * 184528125 := ba_nm (by omega) (by omega)
          have p2 : sv_D n w (fun s => l.testBit s) * ((rr.den : Int) - rr.num) ≤ 4100625 * 184528125 := Int.mul_le_mul DU.2 (by omega) (by omega) (by omega)
          refine ym_mulS (k0 i hi) DU.1 lt (by omega) (by omega) (by omega) (by omega) (fun x2 y2 f2 => ?_)
          have key := vi_frac (H := sv_H n w (fun s => l.testBit s) (fun s => decide (s = j)) i) (Dv := sv_D n w (fun s => m.testBit s)) (F := sv_F n w (fun s => m.testBit s) i (fun t => if t = j then (ch_tot w j : Int) else 0)) (D := sv_D n w (fun s => l.testBit s)) hmm e1 e2 rfl rfl vi
          have eq := (fp_uniq (Int.mul_pos DU.1 lt) DV.1 f2 f).mpr key
          rw [eq.1, eq.2]
          dsimp only
          have hh := hpost x y up' dn' op' tp' bt'
          exact br_c hh.1 hh.2
        dsimp only
        refine xm_solved (by omega) e5 (hs i hi).1 F0 DV.1 (by omega) (by omega) f (fun q => ?_) (fun q => ?_)
        · exact walk (fun r' v' => r' = x ∧ i_Rel (k + 5) (nI n, a, su, sy', ov, un) v') (fun _ _ _ _ _ _ _ => ⟨fun _ => ⟨rfl, ir_mk (k + 5) c _ _ _ _ _ _ _ _ _ _ _ _⟩, fun z => absurd q z⟩)
        · exact walk (fun r' v' => r' = y ∧ i_Rel (k + 5) (nI n, a, su, sy', ov, un) v') (fun _ _ _ _ _ _ _ => ⟨fun z => absurd z q, fun _ => ⟨rfl, ir_mk (k + 5) c _ _ _ _ _ _ _ _ _ _ _ _⟩⟩)
    · refine br_t rfl (xm_part (p := 0) (q := 1) (by decide) (by decide) (by decide) (by decide) (fp_int (by decide)) (fun q => ?_) (fun q => ?_))
      · unfold wpY_visits
        dsimp only
        refine rf_yp h5 hi hj hpart (br_t (by decide) (ym_reached (cr_XY c) hi hr (ym_in (bm_lt hr h5) (by omega) (fun z => by rw [tr] at z; cases z) (fun _ => br_t rfl ⟨?_, J⟩))))
        rw [q]; rfl
      · unfold wpY_visits
        dsimp only
        refine rf_yp h5 hi hj hpart (br_t (by decide) (ym_reached (cr_XY c) hi hr (ym_in (bm_lt hr h5) (by omega) (fun z => by rw [tr] at z; cases z) (fun _ => br_t rfl ⟨?_, J⟩))))
        rw [pt_of hpart q]; rfl
  · refine hX _ (br_f z0 ?_)
    unfold wpY_visits
    dsimp only
    exact hY _ (br_f z1 ⟨rfl, J⟩)
