/-! trees -/
def tr_pp (w : Nat → Nat) (n r c : Nat) : Nat → Nat
  | 0 => 1
  | s + 1 => if s = r ∨ n ≤ s then (if tr_dig c s = 0 then tr_pp w n r c s else 0) else if n ≤ tr_dig c s ∨ tr_dig c s = s then 0 else tr_pp w n r c s * w (5 * s + tr_dig c s)
theorem tr_pp_le {w : Nat → Nat} (h9 : ∀ k, k < 25 → w k ≤ 9) {n r c : Nat} (hn : n ≤ 5) : ∀ s, s ≤ 5 → tr_pp w n r c s ≤ 9 ^ s := by
  intro s
  induction s with
  | zero => intro _; exact Nat.le_refl 1
  | succ s ih =>
    intro hs
    have a := ih (by omega)
    have m : 9 ^ s ≤ 9 ^ (s + 1) := Nat.pow_le_pow_right (by decide) (by omega)
    unfold tr_pp
    split
    · split
      · omega
      · exact Nat.zero_le _
    · split
      · exact Nat.zero_le _
      · rename_i h1 h2
        rw [Nat.pow_succ]
        exact Nat.mul_le_mul a (h9 _ (by omega))
theorem tr_prod_snoc (w : Nat → Nat) (k : Nat) : ∀ l, tr_prod w (l ++ [k]) = tr_prod w l * w k := by
  intro l
  induction l with
  | nil => show w k * 1 = 1 * w k; omega
  | cons a l ih =>
    show w a * tr_prod w (l ++ [k]) = w a * tr_prod w l * w k
    rw [ih, Nat.mul_assoc]
def tr_ix (n r c s : Nat) : List Nat := ((List.range s).filter (fun x => decide (x < n) && !(x == r))).map (fun x => 5 * x + tr_dig c x)
theorem tr_ix5 {n r c : Nat} (hn : n ≤ 5) : tr_ix n r c 5 = tr_idx n r c := by
  rcases (by omega : n = 0 ∨ n = 1 ∨ n = 2 ∨ n = 3 ∨ n = 4 ∨ n = 5) with rfl | rfl | rfl | rfl | rfl | rfl <;> rfl
theorem tr_ixs (n r c s : Nat) : tr_ix n r c (s + 1) = if s < n ∧ s ≠ r then tr_ix n r c s ++ [5 * s + tr_dig c s] else tr_ix n r c s := by
  unfold tr_ix
  rw [List.range_succ, List.filter_append, List.map_append]
  by_cases h : s < n ∧ s ≠ r
  · rw [if_pos h]
    have : (decide (s < n) && !(s == r)) = true := by simp [h.1, h.2]
    simp only [List.filter, this, List.map]
  · rw [if_neg h]
    have : (decide (s < n) && !(s == r)) = false := by
      by_cases q : s < n
      · have : s = r := Classical.byContradiction (fun z => h ⟨q, z⟩)
        simp [this]
      · simp [q]
    simp [List.filter, this]
theorem tr_ppv (w : Nat → Nat) (n r c : Nat) : ∀ s, ((∀ x, x < s → tr_fine n r c x = true) → tr_pp w n r c s = tr_prod w (tr_ix n r c s)) ∧ ((∃ x, x < s ∧ tr_fine n r c x = false) → tr_pp w n r c s = 0) := by
  intro s
  induction s with
  | zero => exact ⟨fun _ => rfl, fun ⟨x, hx, _⟩ => by omega⟩
  | succ s ih =>
    obtain ⟨i1, i2⟩ := ih
    have fs : tr_fine n r c s = if s = r ∨ n ≤ s then tr_dig c s == 0 else (decide (tr_dig c s < n) && !(tr_dig c s == s)) := rfl
    constructor
    · intro h
      have a := i1 (fun x hx => h x (by omega))
      have b := h s (by omega)
      rw [fs] at b
      rw [tr_ixs]
      unfold tr_pp
      by_cases q : s = r ∨ n ≤ s
      · rw [if_pos q] at b ⊢
        have d : tr_dig c s = 0 := by simpa using b
        rw [if_pos d, if_neg (by omega)]; exact a
      · rw [if_neg q] at b ⊢
        simp only [Bool.and_eq_true, decide_eq_true_eq, Bool.not_eq_true', beq_eq_false_iff_ne, ne_eq] at b
        rw [if_neg (by omega), if_pos (by omega), tr_prod_snoc, a]
    · rintro ⟨x, hx, hf⟩
      unfold tr_pp
      by_cases e : x = s
      · subst e
        rw [fs] at hf
        by_cases q : x = r ∨ n ≤ x
        · rw [if_pos q] at hf ⊢
          have d : ¬ tr_dig c x = 0 := by simpa using hf
          rw [if_neg d]
        · rw [if_neg q] at hf ⊢
          rw [if_pos ?_]
          rcases Nat.lt_or_ge (tr_dig c x) n with z | z
          · right
            simpa [z] using hf
          · exact .inl z
      · have a := i2 ⟨x, by omega, hf⟩
        rw [a]
        split
        · split <;> rfl
        · split
          · rfl
          · exact Nat.zero_mul _
theorem tr_term {w : Nat → Nat} {n r c : Nat} (hn : n ≤ 5) : (if tr_leads n r c = true then tr_pp w n r c 5 else 0) = if tr_good n r c = true then tr_prod w (tr_idx n r c) else 0 := by
  have P := tr_ppv w n r c 5
  by_cases l : tr_leads n r c = true
  · rw [if_pos l]
    by_cases g : tr_good n r c = true
    · rw [if_pos g, ← tr_ix5 hn]
      apply P.1
      unfold tr_good at g
      simp only [Bool.and_eq_true] at g
      intro x hx
      rcases (by omega : x = 0 ∨ x = 1 ∨ x = 2 ∨ x = 3 ∨ x = 4) with e | e | e | e | e <;> rw [e]
      · exact g.1.1.1.1.1
      · exact g.1.1.1.1.2
      · exact g.1.1.1.2
      · exact g.1.1.2
      · exact g.1.2
    · rw [if_neg g]
      apply P.2
      apply Classical.byContradiction
      intro no
      apply g
      have f : ∀ x, x < 5 → tr_fine n r c x = true := by
        intro x hx
        cases e : tr_fine n r c x
        · exact absurd ⟨x, hx, e⟩ no
        · rfl
      unfold tr_good
      rw [f 0 (by decide), f 1 (by decide), f 2 (by decide), f 3 (by decide), f 4 (by decide), l]
      rfl
  · rw [if_neg l, if_neg (fun g => l (by
      unfold tr_good at g
      simp only [Bool.and_eq_true] at g
      exact g.2))]
theorem tr_dig_lt (c s : Nat) : tr_dig c s < 5 := Nat.mod_lt _ (by decide)
section
variable {n : Nat} {w : Nat → Nat} {a su : Nat → Int32} {sy ov un : Nat → Int64} {fa fb : Int64} {up dn : Nat → Int64} {op : Nat → Int32} {tp bt nt nb : Nat → Int64}
theorem ym_choice {post : Int32 → Prop} {st : Int32} {c s : Nat} (hc : c < 2 ^ 31) (hs : s < 2 ^ 31) (hp : post (nI (tr_dig c s))) : wpY_choice post (st, fa, fb, a, up, dn, op, tp, bt, nt, nb) (nI c) (nI s) := by
  refine loop_0 (fun f k (x : Int32) => wY_choice_5 post (nI s) st fa fb a up dn op tp bt nt nb f x (nI k)) (fun k x => x = nI (c / 5 ^ k)) s (nI c) (by simp) ?_ ?_
  · rintro f x rfl
    have l : c / 5 ^ s < 2 ^ 31 := Nat.lt_of_le_of_lt (Nat.div_le_self _ _) hc
    refine br_t (nI_le (Nat.le_refl s) hs) ⟨by decide, ?_⟩
    rw [ym_r5 l]; exact hp
  · rintro f k x hk rfl ih
    have l : c / 5 ^ k < 2 ^ 31 := Nat.lt_of_le_of_lt (Nat.div_le_self _ _) hc
    refine br_f (nI_ge hk hs) ⟨by decide, nm_r (ym_d5 l) (nm_r (nI_1 k) (ih _ ?_))⟩
    rw [Nat.div_div_eq_div_mul, ← Nat.pow_succ]
theorem ym_leads {post : Int32 → Prop} (h5 : n ≤ 5) {c r : Nat} (hc : c < 2 ^ 31) (hr : r < n) (h1 : tr_leads n r c = true → post 1) (h0 : tr_leads n r c = false → post 0) : wpY_leads post (nI n, fa, fb, a, up, dn, op, tp, bt, nt, nb) (nI c) (nI r) := by
  refine loop_0 (fun f s (_ : Unit) => wY_leads_2 post (nI c) (nI r) (nI n) fa fb a up dn op tp bt nt nb f (nI s)) (fun s _ => ∀ x, x < s → tr_it c r 5 x = r) n () (fun x hx => absurd hx (by omega)) ?_ ?_
  · intro f _ g
    refine br_t (nI_le (Nat.le_refl n) (by omega)) (h1 ?_)
    unfold tr_leads
    rw [List.all_eq_true]
    intro x hx
    have := g x (List.mem_range.mp hx)
    simp [this]
  · intro f s _ hs g ih
    refine br_f (nI_ge hs (by omega)) ?_
    refine loop_0 (fun f' t (x : Int32) => wY_leads_16 post (wY_leads_2 post (nI c) (nI r) (nI n) fa fb a up dn op tp bt nt nb f) (nI c) (nI r) (nI s) (nI n) fa fb a up dn op tp bt nt nb f' x (nI t)) (fun t x => t ≤ 5 ∧ ∃ y, y < 5 ∧ x = nI y ∧ tr_it c r (5 - t) y = tr_it c r 5 s) 5 (nI s) ⟨by decide, s, by omega, rfl, rfl⟩ ?_ ?_
    · rintro f' x ⟨_, y, hy, rfl, e⟩
      have e' : y = tr_it c r 5 s := e
      refine br_t (by decide) ?_
      by_cases q : y = r
      · refine br_t (by rw [q]) (nm_r (nI_1 s) (ih () (fun x hx => ?_)))
        by_cases z : x = s
        · rw [z, ← e', q]
        · exact g x (by omega)
      · refine br_f (fun z => q ((nI_eq (by omega) (by omega)).mp z)) (h0 ?_)
        cases l : tr_leads n r c
        · rfl
        · unfold tr_leads at l
          rw [List.all_eq_true] at l
          have := l s (List.mem_range.mpr hs)
          have z : tr_it c r 5 s = r := by simpa using this
          exact absurd (e'.trans z) q
    · rintro f' t x ht ⟨_, y, hy, rfl, e⟩ ih2
      refine br_f (nI_ge (b := 5) ht (by decide)) ?_
      obtain ⟨d, hd⟩ : ∃ d, 5 - t = d + 1 := ⟨4 - t, by omega⟩
      have hd2 : 5 - (t + 1) = d := by omega
      rw [hd] at e
      by_cases q : y = r
      · refine br_t (by rw [q]) (nm_r (nI_1 t) (ih2 _ ⟨by omega, r, by omega, rfl, ?_⟩))
        rw [hd2]
        unfold tr_it at e
        rw [if_pos q] at e
        exact e
      · refine br_f (fun z => q ((nI_eq (by omega) (by omega)).mp z)) (ym_choice hc (by omega) (nm_r (nI_1 t) (ih2 _ ⟨by omega, tr_dig c y, tr_dig_lt c y, rfl, ?_⟩)))
        rw [hd2]
        unfold tr_it at e
        rw [if_neg q] at e
        exact e
theorem ym_trees {post : Int64 → Prop} (c : cr_Y n w a) {r : Nat} (hr : r < n) (hp : post (lN (tr_sum w n r 3125))) : ∃ f, wY_trees_17 post (nI r) (nI n) fa fb a up dn op tp bt nt nb f 0 0 := by
  have h5 := c.1.2.1
  refine loop_0 (fun f q (s : Int64) => wY_trees_17 post (nI r) (nI n) fa fb a up dn op tp bt nt nb f s (nI q)) (fun q s => s = lN (tr_sum w n r q)) 3125 0 rfl ?_ ?_
  · rintro f s rfl
    exact br_t (by decide) hp
  · rintro f q s hq rfl ih
    refine br_f (nI_ge (b := 3125) hq (by decide)) ?_
    refine loop_0 (fun f' s (x : Int64) => wY_trees_31 post (wY_trees_17 post (nI r) (nI n) fa fb a up dn op tp bt nt nb f) (nI r) (lN (tr_sum w n r q)) (nI q) (nI n) fa fb a up dn op tp bt nt nb f' x (nI s)) (fun s x => x = lN (tr_pp w n r q s)) 5 1 rfl ?_ ?_
    · rintro f' x rfl
      refine br_t (by decide) ?_
      have pl := tr_pp_le c.1.2.2.1 (n := n) (r := r) (c := q) h5 5 (by decide)
      have pl2 : tr_pp w n r q 5 < 2 ^ 63 := by omega
      have step : tr_sum w n r (q + 1) = tr_sum w n r q + if tr_leads n r q = true then tr_pp w n r q 5 else 0 := by
        rw [tr_term h5]; rfl
      by_cases z : tr_pp w n r q 5 = 0
      · refine br_t (by rw [z]; rfl) (nm_r (nI_1 q) (ih _ ?_))
        rw [step, z]; simp
      · refine br_f (fun y => z ((gc_l0 pl2).mp y)) (ym_leads h5 (by omega) hr (fun l => ?_) (fun l => ?_))
        · refine br_f (by decide) (nm_r (lN_add _ _) (nm_r (nI_1 q) (ih _ ?_)))
          rw [step, if_pos l]
        · refine br_t rfl (nm_r (nI_1 q) (ih _ ?_))
          rw [step, l]; simp
    · rintro f' s x hs rfl ih2
      refine br_f (nI_ge (b := 5) hs (by decide)) (ym_choice (by omega) (by omega) ?_)
      have dl := tr_dig_lt q s
      have ps : tr_pp w n r q (s + 1) = if s = r ∨ n ≤ s then (if tr_dig q s = 0 then tr_pp w n r q s else 0) else if n ≤ tr_dig q s ∨ tr_dig q s = s then 0 else tr_pp w n r q s * w (5 * s + tr_dig q s) := rfl
      have idle : s = r ∨ n ≤ s → wY_trees_62 post (wY_trees_17 post (nI r) (nI n) fa fb a up dn op tp bt nt nb f) (wY_trees_31 post (wY_trees_17 post (nI r) (nI n) fa fb a up dn op tp bt nt nb f) (nI r) (lN (tr_sum w n r q)) (nI q) (nI n) fa fb a up dn op tp bt nt nb f') (nI r) (lN (tr_sum w n r q)) (nI q) (lN (tr_pp w n r q s)) (nI s) (nI (tr_dig q s)) (nI n) fa fb a up dn op tp bt nt nb := by
        intro h
        refine br_f (by decide) ?_
        by_cases z : tr_dig q s = 0
        · refine br_t (by rw [z]; rfl) (nm_r (nI_1 s) (ih2 _ ?_))
          rw [ps, if_pos h, if_pos z]
        · refine br_f (fun y => z ((cw_0 (by omega)).mp y)) (nm_r (nI_1 s) (ih2 _ ?_))
          rw [ps, if_pos h, if_neg z]; rfl
      by_cases e : s = r
      · exact br_t (by rw [e]) (idle (.inl e))
      · refine br_f (fun y => e ((nI_eq (by omega) (by omega)).mp y)) ?_
        rcases Nat.lt_or_ge s n with sn | sn
        · refine br_t (nI_lt sn (by omega)) (br_t rfl ?_)
          have no : ¬ (s = r ∨ n ≤ s) := by omega
          rcases Nat.lt_or_ge (tr_dig q s) n with dn' | dn'
          · refine br_f (nI_ge dn' (by omega)) ?_
            by_cases e2 : tr_dig q s = s
            · refine br_t (by rw [e2]) (nm_r (nI_1 s) (ih2 _ ?_))
              rw [ps, if_neg no, if_pos (.inr e2)]; rfl
            · refine br_f (fun y => e2 ((nI_eq (by omega) (by omega)).mp y)) ?_
              have w9 := c.1.2.2.1 (5 * s + tr_dig q s) (by omega)
              rw [ix_5', nI_clamp (by omega : 5 * s + tr_dig q s < 2 ^ 31), c.2 _ (by omega), nI_l (by omega)]
              refine ⟨vp_in_nI (by omega) (by decide), nm_r (lN_mul _ _) (nm_r (nI_1 s) (ih2 _ ?_))⟩
              rw [ps, if_neg no, if_neg (by omega)]
          · refine br_t (nI_le dn' (by omega)) (nm_r (nI_1 s) (ih2 _ ?_))
            rw [ps, if_neg no, if_pos (.inl dn')]; rfl
        · exact br_f (nI_nlt sn (by omega)) (idle (.inr sn))
end
theorem ba_ops_congr {U V : Nat → Bool} : ∀ k, (∀ s, s < k → U s = V s) → ba_ops U k = ba_ops V k := by
  intro k
  induction k with
  | zero => intro _; rfl
  | succ k ih =>
    intro h
    unfold ba_ops
    rw [ih (fun s hs => h s (by omega)), h k (by omega)]
theorem i_vc_trees {k : Nat} {u : SX} {v : SY} (I : i_Rel k u v) (hk : k + 5 ≤ 2561) (v1 : Int32) : wpX_trees (fun r u' => wpY_trees (fun r' => r' = r ∧ i_Rel (k + 5) u' v) v v1) u v1 := by
  have J := i_up I
  obtain ⟨n, w, a, su, sy, ov, un, fa, fb, up, dn, op, tp, bt, nt, nb, rfl, rfl, c⟩ := I
  have h5 := c.1.2.1
  have p2 := rf_p2 h5
  have p1 := Nat.two_pow_pos n
  unfold wpX_trees wpY_trees
  dsimp only
  by_cases h : ∃ i, i < n ∧ v1 = nI i
  · obtain ⟨r, hr, rfl⟩ := h
    refine xm_st1 h5 hr (br_f (by decide) ?_)
    have all : bm_is n (2 ^ n - 1) (fun _ => True) := by
      refine ⟨by omega, fun i hi => ?_⟩
      rw [Nat.testBit_two_pow_sub_one]
      simp [hi]
    have ho := bm_diff h5 all (bm_one hr)
    have e1 : (1 : Int32) <<< (nI n &&& 31) - 1 = nI (2 ^ n - 1) := by
      rw [bm_shl n (by omega)]
      exact pk_sub (b := 1) (by omega)
    rw [e1, bm_shl r (by omega), bm_not _ (bm_lt all h5) _ (bm_lt (bm_one hr) h5)]
    obtain ⟨l, hl⟩ := bm_exists n (fun i => gr_L n (fun x y => 0 < ch_sw w x y) (fun y => y = r) (fun _ => False) (n - 1) i ∧ ¬ i = r)
    refine nm_e (xm_lead (b := 0) c (bm_one hr) (bm_zero n) hl ?_)
    have ol := bm_lt ho h5
    have ll := bm_lt hl h5
    by_cases e : l = (2 ^ n - 1) &&& (31 ^^^ 2 ^ r)
    · refine br_t (by rw [e]) (xm_layOut c ol (fun sy1 h1 => ?_))
      rw [← e] at h1
      have lead : ∀ s, s < n → s ≠ r → gr_L n (fun x y => 0 < ch_sw w x y) (fun y => y = r) (fun _ => False) (n - 1) s := by
        intro s hs ne
        have t : l.testBit s = true := by
          rw [e]; exact (ho.2 s hs).mpr ⟨trivial, ne⟩
        exact ((hl.2 s hs).mp t).1
      have rU : sv_rank n w (fun s => l.testBit s) := gr_rank_of c.1 (G := fun y => (2 ^ r).testBit y) (B := fun _ => False) (fun s hs => (bt_oneM hl).2 s hs)
      have z0 : ∀ t k, ba_S (fun x => if l.testBit x = true then 0 else (0 : Int) * (ch_sw w t x : Int)) k = 0 := fun t k => ba_S_zero (fun x _ => by simp)
      dsimp only
      refine xm_solve c rU (b := fun _ => 0) (r0 := fun _ => 0) (v := fun _ => 0) (fun _ _ => by decide) (fun k t _ _ _ => by rw [z0]; decide) (fun t _ _ => by rw [z0]; rfl) h1 (fun sy2 h2 => ?_)
      have dr : (nI r * 6 + nI r).toNatClampNeg = 6 * r + r := by rw [ix_6]; exact nI_clamp (by omega)
      dsimp only
      refine ⟨by rw [ix_6]; exact vp_in_nI (by omega) (by decide), ?_⟩
      rw [dr, (h2 r hr).1]
      refine ym_st1 h5 hr (br_f (by decide) (ym_trees (cr_XY c) hr ⟨?_, ir_mk (k + 5) c _ _ _ _ _ _ _ _ _ _ _ _⟩))
      have hW : ∀ s, s < n → s ≠ r → ch_W w s ≠ 0 := by
        intro s hs ne z
        obtain ⟨rk, hrk⟩ := gr_ranks (n := n) (E := fun x y => 0 < ch_sw w x y) (G := fun y => y = r) (B := fun _ => False)
        obtain ⟨_, _, _, j, hj, ej, q⟩ := hrk s hs ne (lead s hs ne)
        have js : s = j := by
          apply Classical.byContradiction
          intro no
          have : ch_sw w s j = 0 := by unfold ch_sw; rw [if_pos z, if_neg no]
          have ej' : 0 < ch_sw w s j := ej
          omega
        rcases q with q | q
        · exact ne (js.trans q)
        · rw [← js] at q; omega
      rw [lz_nat, tr_det c.1 hr hW]
      congr 1
      show _ = ba_D (ch_N w) (ba_ops (fun s => l.testBit s) n)
      congr 1
      apply ba_ops_congr
      intro s hs
      by_cases q : s = r
      · have : l.testBit s = false := by
          cases t : l.testBit s
          · rfl
          · exact absurd q ((hl.2 s hs).mp t).2
        rw [this, q]; simp
      · have : l.testBit s = true := (hl.2 s hs).mpr ⟨lead s hs q, q⟩
        rw [this]; simp [q]
    · refine br_f (fun q => e ((nI_eq (by omega) (by omega)).mp q)) ?_
      refine ym_st1 h5 hr (br_f (by decide) (ym_trees (cr_XY c) hr ⟨?_, J⟩))
      have ex : ∃ s, s < n ∧ ¬ gr_L n (fun x y => 0 < ch_sw w x y) (fun y => y = r) (fun _ => False) (n - 1) s := by
        apply Classical.byContradiction
        intro no
        apply e
        refine bm_ext hl ho (fun s hs => ⟨fun q => ⟨trivial, q.2⟩, fun q => ⟨?_, q.2⟩⟩)
        apply Classical.byContradiction
        intro nl
        exact no ⟨s, hs, nl⟩
      obtain ⟨s, hs, nl⟩ := ex
      rw [tr_zero h5 hs nl]; rfl
  · exact xm_st0 h5 h (br_t rfl (ym_st0 h5 h (br_t rfl ⟨rfl, J⟩)))
