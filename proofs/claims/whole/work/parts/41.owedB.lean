/-! the period -/
section
variable {n : Nat} {w : Nat → Nat} {a su : Nat → Int32} {sy ov un : Nat → Int64} {fa fb : Int64} {up dn : Nat → Int64} {op : Nat → Int32} {tp bt nt nb : Nat → Int64}
theorem ym_divL (st : Int32) : ∀ b a' : Nat, a' < 2 ^ 31 → b < 2 ^ 31 → ∀ post : Int32 → Prop, post (nI (Nat.gcd a' b)) → ∃ f, wY_divisor_5 post st fa fb a up dn op tp bt nt nb f (nI a') (nI b) := by
  intro b
  induction b using Nat.strongRecOn with
  | ind b ih =>
    intro a' ha hb post hp
    rcases Nat.eq_zero_or_pos b with z | z
    · subst z
      rw [Nat.gcd_zero_right] at hp
      exact ⟨1, br_t (by decide) hp⟩
    · have r1 := Nat.mod_lt a' z
      obtain ⟨f, hf⟩ := ih (a' % b) r1 b hb (by omega) post (by rw [gc_step]; exact hp)
      have nz : ¬ nI b = 0 := fun q => by have := (cw_0 hb).mp q; omega
      have np : ¬ nI b ≤ 0 := fun q => by have := (cw_le0 hb).mp q; omega
      exact ⟨f + 1, br_f np ⟨nz, nm_r (pk_rem ha z hb) hf⟩⟩
theorem pe_maskstep {i l m m' : Nat} (hm : bm_is n m (pe_W n (fun x y => 0 < ch_sw w x y) i l)) (h' : bm_is n m' (fun j => ∃ x, x < n ∧ m.testBit x = true ∧ 0 < ch_sw w x j)) : bm_is n m' (pe_W n (fun x y => 0 < ch_sw w x y) i (l + 1)) := by
  refine bm_iff h' (fun y hy => ⟨?_, ?_⟩)
  · rintro ⟨x, hx, t, e⟩
    exact ⟨hy, x, hx, (hm.2 x hx).mp t, e⟩
  · rintro ⟨_, x, hx, t, e⟩
    exact ⟨x, hx, (hm.2 x hx).mpr t, e⟩
theorem pe_gT {p : Nat → Prop} {m : Nat} (h : p (m + 1)) : pe_g p (m + 1) = Nat.gcd (pe_g p m) (m + 1) := if_pos h
theorem pe_gF {p : Nat → Prop} {m : Nat} (h : ¬ p (m + 1)) : pe_g p (m + 1) = pe_g p m := if_neg h
theorem xm_period {post : Int32 → Prop} (c : cr_X n w a su) {i : Nat} (hi : i < n) (hp : post (nI (pe_g (fun k => pe_W n (fun x y => 0 < ch_sw w x y) i k i) 13))) : ∃ f, wX_period_20 post (nI i) (nI n) a su sy ov un f 0 (nI (2 ^ i)) 1 := by
  have h5 := c.1.2.1
  refine pk_loop (fun f l (s : Int64 × Int32) => wX_period_20 post (nI i) (nI n) a su sy ov un f s.1 s.2 (nI l)) (fun l s => 1 ≤ l ∧ s.1 = lN (pe_g (fun k => pe_W n (fun x y => 0 < ch_sw w x y) i k i) (l - 1)) ∧ ∃ m, s.2 = nI m ∧ bm_is n m (pe_W n (fun x y => 0 < ch_sw w x y) i (l - 1))) 14 1 (0, nI (2 ^ i)) (by decide) ?_ ?_ ?_
  · exact ⟨by decide, rfl, 2 ^ i, rfl, bm_one hi⟩
  · rintro f ⟨g, x⟩ ⟨_, e, m, rfl, hm⟩
    dsimp only at e
    refine br_t (by decide) ?_
    dsimp only
    rw [e, lN_i]; exact hp
  · rintro f l ⟨g, x⟩ hl ⟨l1, e, m, e2, hm⟩ ih
    dsimp only at e e2
    subst e e2
    obtain ⟨q, rfl⟩ : ∃ q, l = q + 1 := ⟨l - 1, by omega⟩
    rw [Nat.add_sub_cancel] at hm
    refine br_f (nI_nlt (a := 13) (b := q + 1) (by omega) (by decide)) ?_
    obtain ⟨m', hm'⟩ := bm_exists n (fun j => ∃ x, x < n ∧ m.testBit x = true ∧ 0 < ch_sw w x j)
    have hs := pe_maskstep hm hm'
    dsimp only
    rw [Nat.add_sub_cancel]
    refine xm_one c (bm_lt hm h5) hm' (xm_has (bm_lt hm' h5) (by omega) (fun t => ?_) (fun t => ?_))
    · refine br_f (by decide) ?_
      have gl := pe_g_le (fun k => pe_W n (fun x y => 0 < ch_sw w x y) i k i) q
      rw [nI_l (by omega : q + 1 < 2 ^ 31)]
      refine xm_gcd (by omega) (by omega) (nm_r (nI_1 (q + 1)) (ih (_, nI m') ⟨by omega, ?_, m', rfl, hs⟩))
      dsimp only
      rw [Nat.add_sub_cancel, pe_gT ((hs.2 i hi).mp t)]
      rfl
    · refine br_t rfl (nm_r (nI_1 (q + 1)) (ih (_, nI m') ⟨by omega, ?_, m', rfl, hs⟩))
      dsimp only
      rw [Nat.add_sub_cancel, pe_gF (fun z => by rw [(hs.2 i hi).mpr z] at t; cases t)]
      rfl
theorem ym_period {post : Int32 → Prop} (c : cr_Y n w a) {i : Nat} (hi : i < n) (hp : post (nI (pe_g (fun k => pe_W n (fun x y => 0 < ch_sw w x y) i k i) 59))) : ∃ f, wY_period_19 post (nI i) (nI n) fa fb a up dn op tp bt nt nb f 0 (nI (2 ^ i)) 1 := by
  have h5 := c.1.2.1
  refine pk_loop (fun f l (s : Int32 × Int32) => wY_period_19 post (nI i) (nI n) fa fb a up dn op tp bt nt nb f s.1 s.2 (nI l)) (fun l s => 1 ≤ l ∧ s.1 = nI (pe_g (fun k => pe_W n (fun x y => 0 < ch_sw w x y) i k i) (l - 1)) ∧ ∃ m, s.2 = nI m ∧ bm_is n m (pe_W n (fun x y => 0 < ch_sw w x y) i (l - 1))) 60 1 (0, nI (2 ^ i)) (by decide) ?_ ?_ ?_
  · exact ⟨by decide, rfl, 2 ^ i, rfl, bm_one hi⟩
  · rintro f ⟨g, x⟩ ⟨_, e, m, rfl, hm⟩
    dsimp only at e
    refine br_t (by decide) ?_
    dsimp only
    rw [e]; exact hp
  · rintro f l ⟨g, x⟩ hl ⟨l1, e, m, e2, hm⟩ ih
    dsimp only at e e2
    subst e e2
    obtain ⟨q, rfl⟩ : ∃ q, l = q + 1 := ⟨l - 1, by omega⟩
    rw [Nat.add_sub_cancel] at hm
    refine br_f (nI_ge (b := 60) hl (by decide)) ?_
    obtain ⟨m', hm'⟩ := bm_exists n (fun j => ∃ x, x < n ∧ m.testBit x = true ∧ 0 < ch_sw w x j)
    have hs := pe_maskstep hm hm'
    dsimp only
    rw [Nat.add_sub_cancel]
    refine ym_one c (bm_lt hm h5) hm' (ym_in (bm_lt hm' h5) (by omega) (fun t => ?_) (fun t => ?_))
    · refine br_f (by decide) ?_
      have gl := pe_g_le (fun k => pe_W n (fun x y => 0 < ch_sw w x y) i k i) q
      refine ym_divL (nI n) _ _ (by omega) (by omega) _ (nm_r (nI_1 (q + 1)) (ih (_, nI m') ⟨by omega, ?_, m', rfl, hs⟩))
      dsimp only
      rw [Nat.add_sub_cancel, pe_gT ((hs.2 i hi).mp t)]
      rfl
    · refine br_t rfl (nm_r (nI_1 (q + 1)) (ih (_, nI m') ⟨by omega, ?_, m', rfl, hs⟩))
      dsimp only
      rw [Nat.add_sub_cancel, pe_gF (fun z => by rw [(hs.2 i hi).mpr z] at t; cases t)]
      rfl
end
theorem i_vc_period {k : Nat} {u : SX} {v : SY} (I : i_Rel k u v) (hk : k + 5 ≤ 2561) (v1 : Int32) : wpX_period (fun r => wpY_period (fun r' => r' = r ∧ i_Rel (k + 5) u v) v v1) u v1 := by
  have J := i_up I
  obtain ⟨n, w, a, su, sy, ov, un, fa, fb, up, dn, op, tp, bt, nt, nb, rfl, rfl, c⟩ := I
  have h5 := c.1.2.1
  unfold wpX_period wpY_period
  dsimp only
  by_cases h : ∃ i, i < n ∧ v1 = nI i
  · obtain ⟨i, hi, rfl⟩ := h
    refine xm_st1 h5 hi (br_f (by decide) (nm_r (bm_shl i (by omega)) (xm_period c hi (ym_st1 h5 hi (br_f (by decide) (nm_r (bm_shl i (by omega)) (ym_period (cr_XY c) hi ⟨?_, J⟩)))))))
    rw [pe_g_eq h5 hi 59 (by decide)]
  · exact xm_st0 h5 h (br_t rfl (ym_st0 h5 h (br_t rfl ⟨rfl, J⟩)))
