/-! share -/
section
variable {n : Nat} {w : Nat → Nat} {a su : Nat → Int32} {sy ov un : Nat → Int64}
theorem xm_shareL {post : Int64 → SX → Prop} (c : cr_X n w a su) {j : Nat} (hj : j < n) {part : Int32} {x5 x7 x9 : Int64} {T : Nat → Int} {b : Int} (hT : ∀ s, s < n → sy (6 * s + 5) = Int64.ofInt (T s))
    (hp : wpX_partOf (fun r => post r (nI n, a, su, sy, ov, un)) (x5 * x9) (x7 * Int64.ofInt (b + ba_S (fun s => (ch_sw w j s : Int) * T s) n)) part) : ∃ f, wX_share_102 post (nI j) part x5 x7 x9 (nI n) a su sy ov un f (Int64.ofInt b) 0 := by
  have h5 := c.1.2.1
  refine loop_0 (fun f i (s : Int64) => wX_share_102 post (nI j) part x5 x7 x9 (nI n) a su sy ov un f s (nI i)) (fun i s => s = Int64.ofInt (b + ba_S (fun s => (ch_sw w j s : Int) * T s) i)) n (Int64.ofInt b) ?_ ?_ ?_
  · simp [ba_S]
  · rintro f s rfl
    exact br_t (nI_le (Nat.le_refl n) (by omega)) hp
  · rintro f i s hi rfl ih
    have d5 : (nI i * 6 + 5).toNatClampNeg = 6 * i + 5 := by
      rw [show nI i * 6 + 5 = nI (6 * i + 5) from ix_6 i 5]; exact nI_clamp (by omega)
    have v5 : vp_in (nI i * 6 + 5) 30 := by rw [show nI i * 6 + 5 = nI (6 * i + 5) from ix_6 i 5]; exact vp_in_nI (by omega) (by decide)
    have sl := ch_sw_le c.1 (i := j) (j := i) (by omega) (by omega)
    refine br_f (nI_ge hi (by omega)) (xm_sw c (by omega) (by omega) ⟨v5, ?_⟩)
    rw [d5, hT i hi, cv_pos (by omega), ← Int64.ofInt_mul, ← Int64.ofInt_add]
    refine nm_e (nm_r (nI_1 i) (ih _ ?_))
    simp only [ba_S]
    congr 1
    omega
end
theorem sh_frac {H Hc Dc D num den m S V t : Int} (hm : 0 < m) (e1 : S = num * m) (e2 : V = den * m) (hV : V = t * D) (e : H * Dc = Hc * D) : Hc * den * (D * (t * D + S)) = H * (t * D) * (Dc * (den + num)) := by
  have a : t * D + S = (den + num) * m := by rw [← hV, e1, e2]; grind
  rw [a, ← hV, e2]
  have l : Hc * den * (D * ((den + num) * m)) = (Hc * D) * (den * ((den + num) * m)) := by grind
  rw [l, ← e]; grind
theorem i_vc_share {k : Nat} {u : SX} {v : SY} (I : i_Rel k u v) (hk : k + 5 ≤ 2561) (v1 : Int32) (v2 : Int32) (v3 : Int32) : wpX_share (fun r u' => wpY_share (fun r' v' => r' = r ∧ i_Rel (k + 5) u' v') v v1 v2 v3) u v1 v2 v3 := by
  have J := i_up I
  obtain ⟨n, w, a, su, sy, ov, un, fa, fb, up, dn, op, tp, bt, nt, nb, rfl, rfl, c⟩ := I
  have h5 := c.1.2.1
  unfold wpX_share
  dsimp only
  rcases rf_pair (n := n) (a := a) (su := su) (sy := sy) (ov := ov) (un := un) (fa := fa) (fb := fb) (up := up) (dn := dn) (op := op) (tp := tp) (bt := bt) (nt := nt) (nb := nb) h5 v1 v2 v3 with ⟨i, j, hi, hj, rfl, rfl, hpart⟩ | ⟨z, z0, z1, hX, hY⟩
  · refine rf_x (g := 0) h5 hi hj (Nat.two_pow_pos n) hpart (br_t rfl (xm_closed c hj (fun cl => ?_) (fun ncl => ?_)))
    · obtain ⟨m, hm⟩ := bm_exists n (fun i => gr_L n (fun x y => 0 < ch_sw w x y) (fun y => y = j) (fun _ => False) (n - 1) i ∧ ¬ i = j)
      have hm2 := bt_oneM hm
      have ei : (nI i).toNatClampNeg = i := nI_clamp (by omega)
      have d5 : (nI i * 6 + 5).toNatClampNeg = 6 * i + 5 := by
        rw [show nI i * 6 + 5 = nI (6 * i + 5) from ix_6 i 5]; exact nI_clamp (by omega)
      have v5 : vp_in (nI i * 6 + 5) 30 := by rw [show nI i * 6 + 5 = nI (6 * i + 5) from ix_6 i 5]; exact vp_in_nI (by omega) (by decide)
      have di : (nI i * 6 + nI i).toNatClampNeg = 6 * i + i := by rw [ix_6]; exact nI_clamp (by omega)
      have vi : vp_in (nI i * 6 + nI i) 30 := by rw [ix_6]; exact vp_in_nI (by omega) (by decide)
      have dj : (nI j * 6 + nI j).toNatClampNeg = 6 * j + j := by rw [ix_6]; exact nI_clamp (by omega)
      have vj : vp_in (nI j * 6 + nI j) 30 := by rw [ix_6]; exact vp_in_nI (by omega) (by decide)
      refine br_f (by decide) ?_
      rw [bm_shl j (by omega)]
      refine xm_chances (b := 0) c (bm_one hj).1 (bm_zero n) hm2 (fun r sy1 hs1 => ?_)
      rw [bt_one] at hs1
      have hok := sv_of c.1 r
      have Db := sv_Db c.1 r
      have uj : (fun s => m.testBit s) j = false := by
        show m.testBit j = false
        cases e : m.testBit j
        · rfl
        · exact absurd rfl ((hm.2 j hj).mp e).2
      have dis : ∀ s, s < n → (fun s => m.testBit s) s = true → (fun s => decide (s = j)) s = false := fun s hs t => by
        have := ((hm.2 s hs).mp t).2
        simpa using this
      have Hb : ∀ s, s < n → 0 ≤ sv_H n w (fun s => m.testBit s) (fun s => decide (s = j)) s ∧ sv_H n w (fun s => m.testBit s) (fun s => decide (s = j)) s ≤ sv_D n w (fun s => m.testBit s) := fun s hs => ⟨sv_H_nonneg hok hs, sv_H_le c.1 hok dis hs⟩
      dsimp only
      rw [d5, di, (hs1 i hi).1, (hs1 i hi).2]
      refine ⟨v5, nm_e ⟨vi, nm_e (xm_times c (bm_one hj).1 hm2 (fun _ sy2 hs2 => ?_))⟩⟩
      dsimp only
      refine xm_tot c (by omega) ⟨vj, ?_⟩
      have tl := ch_tot_le c.1 (i := j) (by omega)
      have t1 := ch_tot_pos w j
      rw [dj, (hs2 j hj).1, cv_pos (by omega), ← Int64.ofInt_mul]
      refine nm_e (xm_shareL c hj (T := fun s => if m.testBit s = true then sv_F n w (fun s => m.testBit s) s (fun t => (ch_tot w t : Int)) else 0) (fun s hs => (hs2 s hs).2) ?_)
      rw [← Int64.ofInt_mul, ← Int64.ofInt_mul]
      have Tb : ∀ s, s < n → 0 ≤ (if m.testBit s = true then sv_F n w (fun s => m.testBit s) s (fun t => (ch_tot w t : Int)) else 0) ∧ (if m.testBit s = true then sv_F n w (fun s => m.testBit s) s (fun t => (ch_tot w t : Int)) else 0) ≤ 98415000 := by
        intro s hs
        split
        · rename_i mi
          have a1 := sv_nonneg (U := fun s => m.testBit s) (v := fun t => (ch_tot w t : Int)) hok hs mi (fun t _ _ => by omega)
          have a2 := sv_Fb (U := fun s => m.testBit s) (v := fun t => (ch_tot w t : Int)) c.1 hs mi (fun t ht _ => by
            have := ch_tot_le c.1 (i := t) (by omega)
            omega)
          omega
        · omega
      have S0 : 0 ≤ ba_S (fun s => (ch_sw w j s : Int) * (if m.testBit s = true then sv_F n w (fun s => m.testBit s) s (fun t => (ch_tot w t : Int)) else 0)) n := ba_S_nonneg (fun s hs => Int.mul_nonneg (by omega) (Tb s hs).1)
      have Sb : ba_S (fun s => (ch_sw w j s : Int) * (if m.testBit s = true then sv_F n w (fun s => m.testBit s) s (fun t => (ch_tot w t : Int)) else 0)) n ≤ 98415000 * (ch_tot w j : Int) := by
        rw [← ch_sum c.1 hj, ← ba_S_mul]
        apply ba_S_le
        intro s hs
        have := Int.mul_le_mul_of_nonneg_left (Tb s hs).2 (show (0 : Int) ≤ (ch_sw w j s : Int) by omega)
        rw [Int.mul_comm (98415000 : Int)]
        exact this
      have V0 : 0 < (ch_tot w j : Int) * sv_D n w (fun s => m.testBit s) := Int.mul_pos (by omega) Db.1
      have Vb : (ch_tot w j : Int) * sv_D n w (fun s => m.testBit s) ≤ 45 * 4100625 := Int.mul_le_mul (by omega) Db.2 (by omega) (by omega)
      have Hi := Hb i hi
      have P0 : 0 ≤ sv_H n w (fun s => m.testBit s) (fun s => decide (s = j)) i * ((ch_tot w j : Int) * sv_D n w (fun s => m.testBit s)) := Int.mul_nonneg Hi.1 (by omega)
      have Pb : sv_H n w (fun s => m.testBit s) (fun s => decide (s = j)) i * ((ch_tot w j : Int) * sv_D n w (fun s => m.testBit s)) ≤ 4100625 * (45 * 4100625) := Int.mul_le_mul (by omega) Vb (by omega) (by omega)
      have Q0 : 0 < sv_D n w (fun s => m.testBit s) * ((ch_tot w j : Int) * sv_D n w (fun s => m.testBit s) + ba_S (fun s => (ch_sw w j s : Int) * (if m.testBit s = true then sv_F n w (fun s => m.testBit s) s (fun t => (ch_tot w t : Int)) else 0)) n) := Int.mul_pos Db.1 (by omega)
      have Qb : sv_D n w (fun s => m.testBit s) * ((ch_tot w j : Int) * sv_D n w (fun s => m.testBit s) + ba_S (fun s => (ch_sw w j s : Int) * (if m.testBit s = true then sv_F n w (fun s => m.testBit s) s (fun t => (ch_tot w t : Int)) else 0)) n) ≤ 4100625 * 10000000000 := Int.mul_le_mul Db.2 (by omega) (by omega) (by omega)
      obtain ⟨x, y, f⟩ := fp_can (p := sv_H n w (fun s => m.testBit s) (fun s => decide (s = j)) i * ((ch_tot w j : Int) * sv_D n w (fun s => m.testBit s))) Q0 (by omega) (by omega)
      have walk : ∀ (post : Int64 → SY → Prop), (∀ fa' fb' up' dn' op' tp' bt', (v3 = 0 → post x (nI n, fa', fb', a, up', dn', op', tp', bt', nt, nb)) ∧ (¬ v3 = 0 → post y (nI n, fa', fb', a, up', dn', op', tp', bt', nt, nb))) → wpY_share post (nI n, fa, fb, a, up, dn, op, tp, bt, nt, nb) (nI i) (nI j) v3 := by
        intro post hpost
        unfold wpY_share
        dsimp only
        obtain ⟨rr, hr⟩ := bm_exists n (gr_R n (fun x y => 0 < ch_sw w x y) (fun _ => False) i (n - 1))
        refine rf_yp h5 hi hj hpart (br_t (by decide) (ym_closed (cr_XY c) hj (fun _ => br_f (by decide) (ym_reached (cr_XY c) hi hr (ym_in (bm_lt hr h5) (by omega) (fun tr => br_f (by decide) ?_) (fun tr => br_t rfl ?_)))) (fun z => absurd cl z)))
        · obtain ⟨q, hq⟩ := bm_exists n (fun s => gr_R n (fun x y => 0 < ch_sw w x y) (fun _ => False) j (n - 1) s ∧ gr_R n (fun x y => 0 < ch_sw w x y) (fun _ => False) s (n - 1) j)
          obtain ⟨p, hp⟩ := bm_exists n (fun i => gr_L n (fun x y => 0 < ch_sw w x y) (fun y => q.testBit y = true) (fun _ => False) (n - 1) i ∧ ¬ q.testBit i = true)
          have qj : q.testBit j = true := (hq.2 j hj).mpr ⟨gr_R_up (Nat.zero_le _) (show gr_R n _ _ j 0 j from rfl), gr_R_up (Nat.zero_le _) (show gr_R n _ _ j 0 j from rfl)⟩
          have hC : ∀ s, s < n → (fun s => q.testBit s) s = true → s ≠ j → (fun s => m.testBit s) s = true := fun s hs t ne => (hm.2 s hs).mpr ⟨(gr_to hj hs (by omega)).mpr ((hq.2 s hs).mp t).2, ne⟩
          have hcl : ∀ s c', s < n → c' < n → (fun s => q.testBit s) s = true → 0 < ch_sw w s c' → (fun s => q.testBit s) c' = true := by
            intro s c' hs hc t e
            have r1 := ((hq.2 s hs).mp t).1
            have r2 : gr_R n (fun x y => 0 < ch_sw w x y) (fun _ => False) j (n - 1) c' := gr_R_stab hj (n - 1 + 1) c' (.inr ⟨hc, s, hs, r1, fun z => z, e⟩)
            exact (hq.2 c' hc).mpr ⟨r2, (gr_to hj hc (by omega)).mp (cl c' hc r2)⟩
          have hV : ∀ s, (fun s => p.testBit s) s = true ↔ ((fun s => m.testBit s) s = true ∧ (fun s => q.testBit s) s = false) := by
            intro s
            show p.testBit s = true ↔ (m.testBit s = true ∧ q.testBit s = false)
            by_cases sn : s < n
            · have a1 : p.testBit s = true ↔ _ := hp.2 s sn
              have a2 : m.testBit s = true ↔ _ := hm.2 s sn
              rw [a1, a2]
              constructor
              · rintro ⟨l, nq⟩
                obtain ⟨y, hy, gy, r⟩ := (gr_lead (T := fun _ => False) (q := n - 1) (fun _ z => z.elim) (fun _ z => z) sn (by omega)).mp l
                have ry := ((hq.2 y hy).mp gy).2
                refine ⟨⟨(gr_to hj sn (by omega)).mpr (gr_R_cat r _ _ ry), fun e => nq (by rw [e]; exact qj)⟩, by simpa using nq⟩
              · rintro ⟨⟨l, _⟩, nq⟩
                refine ⟨(gr_lead (T := fun _ => False) (q := n - 1) (fun _ z => z.elim) (fun _ z => z) sn (by omega)).mpr ⟨j, hj, qj, (gr_to hj sn (by omega)).mp l⟩, by rw [nq]; decide⟩
            · rw [bm_hi hp.1 (by omega), bm_hi hm.1 (by omega)]
              constructor
              · intro z; cases z
              · rintro ⟨z, _⟩; cases z
          rw [bm_shl j (by omega)]
          refine ym_times (cr_XY c) (bm_one hj).1 hm2 (fun _ fa1 fb1 up1 dn1 op1 tp1 bt1 k1 => ?_)
          rw [bt_one] at k1
          dsimp only
          refine ym_mean (cr_XY c) hj (P := fun s => if m.testBit s = true then sv_F n w (fun s => m.testBit s) s (fun t => (ch_tot w t : Int)) else 0) (Q := sv_D n w (fun s => m.testBit s)) Db.1 (by omega) (fun s hs => by have := Tb s hs; omega) (fun s hs sw0 => (k1 s hs).1 (sv_in_class c.1 (U := fun s => m.testBit s) (C := fun s => q.testBit s) hj r uj hC hcl hs (hcl j s hj hs qj sw0))) (fun x1 y1 f1 => ?_)
          dsimp only
          obtain ⟨rfl, rfl, g3, g4⟩ := f1
          obtain ⟨mm, hmm, e1, e2⟩ := fr_ex (ba_S (fun s => (ch_sw w j s : Int) * (if m.testBit s = true then sv_F n w (fun s => m.testBit s) s (fun t => (ch_tot w t : Int)) else 0)) n) V0
          have dp := fr_den_pos (ba_S (fun s => (ch_sw w j s : Int) * (if m.testBit s = true then sv_F n w (fun s => m.testBit s) s (fun t => (ch_tot w t : Int)) else 0)) n) ((ch_tot w j : Int) * sv_D n w (fun s => m.testBit s))
          have dl := fr_le (ba_S (fun s => (ch_sw w j s : Int) * (if m.testBit s = true then sv_F n w (fun s => m.testBit s) s (fun t => (ch_tot w t : Int)) else 0)) n) V0
          generalize hRat : Rat.divInt (ba_S (fun s => (ch_sw w j s : Int) * (if m.testBit s = true then sv_F n w (fun s => m.testBit s) s (fun t => (ch_tot w t : Int)) else 0)) n) ((ch_tot w j : Int) * sv_D n w (fun s => m.testBit s)) = ra at *
          have n0 : 0 ≤ ra.num := by
            have S0' := S0
            rw [e1] at S0'
            exact Int.le_of_mul_le_mul_right (by simpa using S0') hmm
          rw [← Int64.ofInt_add]
          refine nm_e (ym_class (cr_XY c) hj hq (ym_chances (b := 0) (cr_XY c) hq.1 (bm_zero n) hp (fun r2 fa2 fb2 up2 dn2 op2 tp2 bt2 k2 => ?_)))
          have Db2 := sv_Db c.1 r2
          have hok2 := sv_of c.1 r2
          have dis2 : ∀ s, s < n → (fun s => p.testBit s) s = true → (fun s => q.testBit s) s = false := fun s _ t => ((hV s).mp t).2
          have H2 := sv_H_nonneg (U := fun s => p.testBit s) (G := fun s => q.testBit s) hok2 hi
          have H3 := sv_H_le (U := fun s => p.testBit s) (G := fun s => q.testBit s) c.1 hok2 dis2 hi
          have share := sv_share c.1 (U := fun s => m.testBit s) (C := fun s => q.testBit s) (V := fun s => p.testBit s) hj r uj qj hC hcl hV hi
          have vpi : vp_in (nI i) 5 := vp_in_nI (by omega) (by decide)
          dsimp only
          rw [ei]
          refine ⟨vpi, vpi, ?_⟩
          have lt : 0 < ra.num + (ra.den : Int) := by omega
          have p1 : (sv_H n w (fun s => p.testBit s) (fun s => q.testBit s) i * (ra.den : Int)).natAbs ≤ 4100625 * 184528125 := ba_nm (by omega) (by omega)
          have p2 : sv_D n w (fun s => p.testBit s) * (ra.num + (ra.den : Int)) ≤ 4100625 * 10000000000 := Int.mul_le_mul Db2.2 (by omega) (by omega) (by omega)
          refine ym_mulS (k2 i hi) Db2.1 lt (by omega) (by omega) (by omega) (by omega) (fun x2 y2 f2 => ?_)
          have key := sh_frac (H := sv_H n w (fun s => m.testBit s) (fun s => decide (s = j)) i) (Hc := sv_H n w (fun s => p.testBit s) (fun s => q.testBit s) i) (Dc := sv_D n w (fun s => p.testBit s)) (D := sv_D n w (fun s => m.testBit s)) (t := (ch_tot w j : Int)) hmm e1 e2 rfl share
          rw [Int.add_comm (ra.den : Int)] at key
          have eq := (fp_uniq (Int.mul_pos Db2.1 lt) Q0 f2 f).mpr key
          rw [eq.1, eq.2]
          dsimp only
          have hh := hpost x y up2 dn2 op2 tp2 bt2
          exact br_c hh.1 hh.2
        · have nj : ¬ gr_R n (fun x y => 0 < ch_sw w x y) (fun _ => False) i (n - 1) j := fun z => by rw [(hr.2 j hj).mpr z] at tr; cases tr
          have ij : i ≠ j := fun e => nj (by rw [e]; exact gr_R_up (Nat.zero_le _) (show gr_R n _ _ j 0 j from rfl))
          have ui : m.testBit i = false := by
            cases e : m.testBit i
            · rfl
            · exact absurd ((gr_to hj hi (by omega)).mp ((hm.2 i hi).mp e).1) nj
          have H00 : sv_H n w (fun s => m.testBit s) (fun s => decide (s = j)) i = 0 := sv_H_0 (U := fun s => m.testBit s) (G := fun s => decide (s = j)) ui (by simpa using ij)
          have eq := (fp_uniq Q0 (by decide) f (fp_int (t := 0) (by decide))).mpr (by rw [H00]; simp)
          have hh := hpost fa fb up dn op tp bt
          rcases hpart with e | e
          · have := hh.1 e
            rw [eq.1] at this
            rw [e]; exact this
          · have := hh.2 (by rw [e]; decide)
            rw [eq.2] at this
            rw [e]; exact this
      refine xm_part P0 Q0 (by omega) (by omega) f (fun q => ?_) (fun q => ?_)
      · exact walk (fun r' v' => r' = x ∧ i_Rel (k + 5) (nI n, a, su, sy2, ov, un) v') (fun _ _ _ _ _ _ _ => ⟨fun _ => ⟨rfl, ir_mk (k + 5) c _ _ _ _ _ _ _ _ _ _ _ _⟩, fun z => absurd q z⟩)
      · exact walk (fun r' v' => r' = y ∧ i_Rel (k + 5) (nI n, a, su, sy2, ov, un) v') (fun _ _ _ _ _ _ _ => ⟨fun z => absurd z q, fun _ => ⟨rfl, ir_mk (k + 5) c _ _ _ _ _ _ _ _ _ _ _ _⟩⟩)
    · refine br_t rfl (xm_part (p := 0) (q := 1) (by decide) (by decide) (by decide) (by decide) (fp_int (by decide)) (fun q => ?_) (fun q => ?_))
      · unfold wpY_share
        dsimp only
        refine rf_yp h5 hi hj hpart (br_t (by decide) (ym_closed (cr_XY c) hj (fun z => absurd z ncl) (fun _ => br_t rfl ⟨?_, J⟩)))
        rw [q]; rfl
      · unfold wpY_share
        dsimp only
        refine rf_yp h5 hi hj hpart (br_t (by decide) (ym_closed (cr_XY c) hj (fun z => absurd z ncl) (fun _ => br_t rfl ⟨?_, J⟩)))
        rw [pt_of hpart q]; rfl
  · refine hX _ (br_f z0 ?_)
    unfold wpY_share
    dsimp only
    exact hY _ (br_f z1 ⟨rfl, J⟩)
