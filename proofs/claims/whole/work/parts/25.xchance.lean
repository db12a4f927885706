/-! chances, times, visits of the component -/
theorem ba_S_mono {f : Nat → Int} (h : ∀ c, 0 ≤ f c) {k m : Nat} (hk : k ≤ m) : ba_S f k ≤ ba_S f m := by
  induction m with
  | zero => rw [show k = 0 by omega]; exact Int.le_refl _
  | succ m ih =>
    rcases Nat.lt_or_ge m k with q | q
    · rw [show k = m + 1 by omega]; exact Int.le_refl _
    · have := ih q
      have := h m
      simp only [ba_S]; omega
theorem gr_rank_of {n : Nat} {w : Nat → Nat} (ok : ch_ok n w) {U G : Nat → Bool} {B : Nat → Prop}
    (hU : ∀ s, s < n → (U s = true ↔ (gr_L n (fun x y => 0 < ch_sw w x y) (fun y => G y = true) B (n - 1) s ∧ ¬ G s = true))) : sv_rank n w U := by
  have h1 := ok.1
  have h5 := ok.2.1
  obtain ⟨rk, hr⟩ := gr_ranks (n := n) (E := fun x y => 0 < ch_sw w x y) (G := fun y => G y = true) (B := B)
  have fin : ∀ z, z < n → U z = false → sv_rank n w U := by
    intro z hz uz
    refine ⟨z, rk, hz, uz, ?_, ?_⟩
    · intro s hs us
      obtain ⟨l, ng⟩ := (hU s hs).mp us
      obtain ⟨r1, r2, _⟩ := hr s hs ng l
      exact ⟨r1, by omega⟩
    · intro s hs us
      obtain ⟨l, ng⟩ := (hU s hs).mp us
      obtain ⟨_, _, _, j, hj, e, q⟩ := hr s hs ng l
      refine ⟨j, hj, e, fun uj => ?_⟩
      rcases q with q | q
      · exact absurd q ((hU j hj).mp uj).2
      · exact q.2
  by_cases g : ∃ y, y < n ∧ G y = true
  · obtain ⟨y, hy, gy⟩ := g
    refine fin y hy ?_
    cases e : U y
    · rfl
    · exact absurd gy ((hU y hy).mp e).2
  · refine fin 0 (by omega) ?_
    cases e : U 0
    · rfl
    · obtain ⟨m, y, hy, gy, _⟩ := gr_LR (T := fun _ => False) (fun _ z => z.elim) _ 0 (by omega) ((hU 0 (by omega)).mp e).1
      exact absurd ⟨y, hy, gy⟩ g
theorem xe_val0 (w : Nat → Nat) (U : Nat → Bool) (b r0 : Nat → Int) (s c : Nat) : xe_val w U b r0 0 s c = xs_0 w U b r0 s c := by
  unfold xe_val xs_0
  by_cases us : U s = true
  · rw [if_pos us]
    show xe_vec w U b r0 0 c s = _
    unfold xe_vec xe_rhs
    simp only [ba_S, us, if_true, Int.sub_zero]
    by_cases c5 : c = 5
    · simp [c5]
    · simp [c5]
  · rw [if_neg us]
    show 1 * xe_id b s c = _
    unfold xe_id
    simp only [us, if_false, Int.one_mul]
    by_cases c5 : c = 5 <;> simp [c5]
theorem xe_fin_d {n : Nat} {w : Nat → Nat} (ok : ch_ok n w) {U : Nat → Bool} (h : sv_ok n w U) (b r0 : Nat → Int) {s : Nat} (hs : s < n) : xe_val w U b r0 n s s = sv_D n w U := by
  have h5 := ok.2.1
  unfold xe_val
  by_cases us : U s = true
  · rw [if_pos us]
    have e : xe_vec w U b r0 n s = fun t => ch_N w t s := by
      funext t
      unfold xe_vec
      rw [if_neg (by omega), if_neg (fun q => by rw [us] at q; exact absurd q.2 (by decide))]
    rw [e]
    obtain ⟨g, T⟩ := h
    have := (T n (Nat.le_refl n)).2.2.2.1 s hs us s hs us
    rw [if_pos rfl] at this
    exact this
  · rw [if_neg us]
    unfold xe_id
    rw [if_neg (by omega), if_pos rfl, Int.mul_one]
    rfl
theorem xe_rhs_sw {n : Nat} {w : Nat → Nat} {U : Nat → Bool} (b r0 : Nat → Int) {k t : Nat} (ut : U t = true) : xe_rhs w U b r0 k t = r0 t + ba_S (fun m => if U m = true then 0 else b m * (ch_sw w t m : Int)) k := by
  unfold xe_rhs
  have e : ba_S (fun m => if U m = true then 0 else b m * ch_N w t m) k = ba_S (fun m => (-1) * (if U m = true then 0 else b m * (ch_sw w t m : Int))) k := by
    apply ba_S_congr
    intro m _
    by_cases um : U m = true
    · simp [um]
    · have : m ≠ t := fun q => um (q ▸ ut)
      rw [if_neg um, if_neg um, ch_N_off this]; grind
  rw [e, ba_S_mul]; omega
theorem xe_fin_r {n : Nat} {w : Nat → Nat} (ok : ch_ok n w) {U : Nat → Bool} (h : sv_ok n w U) (b r0 v : Nat → Int) (hv : ∀ t, t < n → U t = true → r0 t + ba_S (fun m => if U m = true then 0 else b m * (ch_sw w t m : Int)) n = v t) {s : Nat} (hs : s < n) :
    xe_val w U b r0 n s 5 = if U s = true then sv_F n w U s v else sv_D n w U * b s := by
  unfold xe_val
  by_cases us : U s = true
  · rw [if_pos us, if_pos us]
    refine sv_congr h hs us (v := xe_vec w U b r0 n 5) (u := v) ?_
    intro t ht ut
    unfold xe_vec
    rw [if_pos rfl, xe_rhs_sw (n := n) b r0 ut, hv t ht ut]
  · rw [if_neg us, if_neg us]
    unfold xe_id
    rw [if_pos rfl]; rfl
theorem sv_Db {n : Nat} {w : Nat → Nat} (ok : ch_ok n w) {U : Nat → Bool} (r : sv_rank n w U) : 0 < sv_D n w U ∧ sv_D n w U ≤ 4100625 := by
  have h5 := ok.2.1
  have h := sv_of ok r
  obtain ⟨z, _, hz, uz, _⟩ := r
  have d := sv_DT ok h hz uz (k := n) (Nat.le_refl n)
  have l : (ba_ops U n).length ≤ 4 := by have := ba_ops_lenz uz n hz; omega
  have p4 := ye_pow (a := (ba_ops U n).length) (b := 4) l
  have p4' : (45 : Int) ^ 4 = 4100625 := by decide
  exact ⟨d.1, by show ba_D (ch_N w) (ba_ops U n) ≤ _; omega⟩
theorem sv_Fb {n : Nat} {w : Nat → Nat} (ok : ch_ok n w) {U : Nat → Bool} {s : Nat} (hs : s < n) (us : U s = true) {v : Nat → Int} (hv : ∀ t, t < n → U t = true → (v t).natAbs ≤ 45) : (sv_F n w U s v).natAbs ≤ 98415000 :=
  ba_Fb (Nat.le_refl n) hs us (fun a ha _ b hb _ => ch_N_b ok ha hb) hv
section
variable {n : Nat} {w : Nat → Nat} {a su : Nat → Int32} {sy ov un : Nat → Int64}
/-- after the right sides are in, the table is solved -/
theorem xm_solve {post : SX → Prop} (c : cr_X n w a su) {U : Nat → Bool} (r : sv_rank n w U) {b r0 v : Nat → Int} (hb : ∀ s, s < n → (b s).natAbs ≤ 1)
    (hr : ∀ k t, k ≤ n → t < n → U t = true → (r0 t + ba_S (fun m => if U m = true then 0 else b m * (ch_sw w t m : Int)) k).natAbs ≤ 45)
    (hv : ∀ t, t < n → U t = true → r0 t + ba_S (fun m => if U m = true then 0 else b m * (ch_sw w t m : Int)) n = v t)
    (h0 : xs_M n sy (xs_0 w U b r0)) (hp : ∀ sy', (∀ s, s < n → sy' (6 * s + s) = Int64.ofInt (sv_D n w U) ∧ sy' (6 * s + 5) = Int64.ofInt (if U s = true then sv_F n w U s v else sv_D n w U * b s)) → post (nI n, a, su, sy', ov, un)) : wpX_eliminate post (nI n, a, su, sy, ov, un) := by
  have h := sv_of c.1 r
  obtain ⟨z, _, hz, uz, _⟩ := r
  refine xm_elim c.1 h hz uz (b := b) (r0 := r0) hb ?_ ?_ ?_
  · intro k t hk ht ut
    rw [xe_rhs_sw (n := n) b r0 ut]; exact hr k t hk ht ut
  · intro s hs c' hc
    rw [h0 s hs c' hc, xe_val0]
  · intro sy' hM
    refine hp sy' (fun s hs => ⟨?_, ?_⟩)
    · rw [hM s hs s (.inl hs), xe_fin_d c.1 h b r0 hs]
    · rw [hM s hs 5 (.inr rfl), xe_fin_r c.1 h b r0 v hv hs]
theorem xm_chances {post : SX → Prop} (c : cr_X n w a su) {g b m : Nat} {B : Nat → Prop} (hg : g < 2 ^ n) (hb : bm_is n b B)
    (hm : bm_is n m (fun i => gr_L n (fun x y => 0 < ch_sw w x y) (fun y => g.testBit y = true) B (n - 1) i ∧ ¬ g.testBit i = true))
    (hp : sv_rank n w (fun s => m.testBit s) → ∀ sy', (∀ s, s < n → sy' (6 * s + s) = Int64.ofInt (sv_D n w (fun s => m.testBit s)) ∧ sy' (6 * s + 5) = Int64.ofInt (sv_H n w (fun s => m.testBit s) (fun s => g.testBit s) s)) → post (nI n, a, su, sy', ov, un)) : wpX_solveChances post (nI n, a, su, sy, ov, un) (nI g) (nI b) := by
  have h5 := c.1.2.1
  have hgm : bm_is n g (fun y => g.testBit y = true) := ⟨hg, fun _ _ => Iff.rfl⟩
  have r : sv_rank n w (fun s => m.testBit s) := gr_rank_of c.1 (G := fun y => g.testBit y) (B := B) (fun s hs => hm.2 s hs)
  have dis : ∀ s, s < n → m.testBit s = true → g.testBit s = false := fun s hs t => by
    have := ((hm.2 s hs).mp t).2
    simpa using this
  unfold wpX_solveChances
  dsimp only
  refine xm_lead c hgm hb hm (xm_layOut c (bm_lt hm h5) (fun sy1 h1 => ?_))
  dsimp only
  refine loop_0 (fun f i (s : Nat → Int64) => wX_solveChances_15 post (nI g) (nI n) f (nI i) a su s ov un) (fun i s => xs_M n s (xs_0 w (fun s => m.testBit s) (fun x => if x < i ∧ g.testBit x = true then 1 else 0) (fun _ => 0))) n sy1 ?_ ?_ ?_
  · intro s hs c' hc
    rw [h1 s hs c' hc]
    unfold xs_0
    simp
  · intro f sy2 h2
    refine br_t (nI_le (Nat.le_refl n) (by omega)) ?_
    have nn : ∀ t x, 0 ≤ (if m.testBit x = true then 0 else (if x < n ∧ g.testBit x = true then (1 : Int) else 0) * (ch_sw w t x : Int)) := by
      intro t x
      split
      · omega
      · split
        · omega
        · simp
    have sm : ∀ t, ba_S (fun x => if m.testBit x = true then 0 else (if x < n ∧ g.testBit x = true then (1 : Int) else 0) * (ch_sw w t x : Int)) n = sv_v n w (fun s => g.testBit s) t := by
      intro t
      apply ba_S_congr
      intro x hx
      by_cases mx : m.testBit x = true
      · rw [if_pos mx]; simp [dis x hx mx]
      · rw [if_neg mx]
        by_cases gx : g.testBit x = true
        · rw [if_pos ⟨hx, gx⟩, if_pos gx]; omega
        · rw [if_neg (fun q => gx q.2), if_neg gx]; simp
    refine xm_solve c r (b := fun x => if x < n ∧ g.testBit x = true then 1 else 0) (r0 := fun _ => 0) (v := sv_v n w (fun s => g.testBit s)) ?_ ?_ ?_ h2 ?_
    · intro s _
      split <;> decide
    · intro k t hk ht _
      have u1 := ba_S_mono (nn t) hk
      have u2 : 0 ≤ ba_S (fun x => if m.testBit x = true then 0 else (if x < n ∧ g.testBit x = true then (1 : Int) else 0) * (ch_sw w t x : Int)) k := ba_S_nonneg (fun x _ => nn t x)
      rw [sm t] at u1
      have u3 := sv_v_le c.1 (fun s => g.testBit s) ht
      have u4 := ch_tot_le c.1 (i := t) (by omega)
      omega
    · intro t _ _
      rw [sm t]; omega
    · intro sy' h'
      refine hp r sy' (fun s hs => ⟨(h' s hs).1, ?_⟩)
      rw [(h' s hs).2]
      congr 1
      unfold sv_H
      dsimp only
      by_cases ms : m.testBit s = true
      · rw [if_pos ms, if_pos ms]
      · rw [if_neg ms, if_neg ms]
        by_cases gs : g.testBit s = true
        · rw [if_pos ⟨hs, gs⟩, if_pos gs, Int.mul_one]
        · rw [if_neg (fun q => gs q.2), if_neg gs, Int.mul_zero]
  · intro f i sy2 hi h2 ih
    refine br_f (nI_ge hi (by omega)) (xm_has (bm_lt hgm h5) (by omega) (fun t => ?_) (fun t => ?_))
    · have d5 : (nI i * 6 + 5).toNatClampNeg = 6 * i + 5 := by
        rw [show nI i * 6 + 5 = nI (6 * i + 5) from ix_6 i 5]; exact nI_clamp (by omega)
      have v5 : vp_in (nI i * 6 + 5) 30 := by rw [show nI i * 6 + 5 = nI (6 * i + 5) from ix_6 i 5]; exact vp_in_nI (by omega) (by decide)
      refine br_f (by decide) ⟨v5, nm_e (nm_r (nI_1 i) (ih _ ?_))⟩
      intro s hs c' hc
      rw [d5]
      by_cases q : 6 * s + c' = 6 * i + 5
      · have c5 : c' = 5 := by omega
        have si : s = i := by omega
        rw [q, pk_uLs, c5, si]
        have mi : ¬ m.testBit i = true := fun z => by rw [dis i hi z] at t; cases t
        unfold xs_0
        simp only [if_true, mi, if_false, t, and_true, Nat.lt_succ_self]
        rfl
      · rw [pk_uLn q, h2 s hs c' hc]
        congr 1
        unfold xs_0
        by_cases c5 : c' = 5
        · have si : s ≠ i := by omega
          rw [if_pos c5, if_pos c5]
          have : (s < i ∧ g.testBit s = true) = (s < i + 1 ∧ g.testBit s = true) := by
            apply propext
            constructor
            · rintro ⟨x, y⟩; exact ⟨by omega, y⟩
            · rintro ⟨x, y⟩; exact ⟨by omega, y⟩
          simp only [this]
        · rw [if_neg c5, if_neg c5]
    · refine br_t rfl (nm_r (nI_1 i) (ih _ ?_))
      intro s hs c' hc
      rw [h2 s hs c' hc]
      congr 1
      unfold xs_0
      have : (s < i ∧ g.testBit s = true) = (s < i + 1 ∧ g.testBit s = true) := by
        apply propext
        constructor
        · rintro ⟨x, y⟩; exact ⟨by omega, y⟩
        · rintro ⟨x, y⟩
          have : s ≠ i := fun e => by rw [e, t] at y; cases y
          exact ⟨by omega, y⟩
      simp only [this]
theorem xm_times {post : SX → Prop} (c : cr_X n w a su) {g m : Nat} (hg : g < 2 ^ n)
    (hm : bm_is n m (fun i => gr_L n (fun x y => 0 < ch_sw w x y) (fun y => g.testBit y = true) (fun _ => False) (n - 1) i ∧ ¬ g.testBit i = true))
    (hp : sv_rank n w (fun s => m.testBit s) → ∀ sy', (∀ s, s < n → sy' (6 * s + s) = Int64.ofInt (sv_D n w (fun s => m.testBit s)) ∧ sy' (6 * s + 5) = Int64.ofInt (if m.testBit s = true then sv_F n w (fun s => m.testBit s) s (fun t => (ch_tot w t : Int)) else 0)) → post (nI n, a, su, sy', ov, un)) : wpX_solveTimes post (nI n, a, su, sy, ov, un) (nI g) := by
  have h5 := c.1.2.1
  have hgm : bm_is n g (fun y => g.testBit y = true) := ⟨hg, fun _ _ => Iff.rfl⟩
  have r : sv_rank n w (fun s => m.testBit s) := gr_rank_of c.1 (G := fun y => g.testBit y) (B := fun _ => False) (fun s hs => hm.2 s hs)
  unfold wpX_solveTimes
  dsimp only
  refine xm_lead (b := 0) c hgm (bm_zero n) hm (xm_layOut c (bm_lt hm h5) (fun sy1 h1 => ?_))
  dsimp only
  refine loop_0 (fun f i (s : Nat → Int64) => wX_solveTimes_14 post (nI m) (nI n) f (nI i) a su s ov un) (fun i s => xs_M n s (xs_0 w (fun s => m.testBit s) (fun _ => 0) (fun x => if x < i then (ch_tot w x : Int) else 0))) n sy1 ?_ ?_ ?_
  · intro s hs c' hc
    rw [h1 s hs c' hc]
    unfold xs_0
    simp
  · intro f sy2 h2
    refine br_t (nI_le (Nat.le_refl n) (by omega)) ?_
    have z0 : ∀ t k, ba_S (fun x => if m.testBit x = true then 0 else (0 : Int) * (ch_sw w t x : Int)) k = 0 := fun t k => ba_S_zero (fun x _ => by simp)
    refine xm_solve c r (b := fun _ => 0) (r0 := fun x => if x < n then (ch_tot w x : Int) else 0) (v := fun t => (ch_tot w t : Int)) ?_ ?_ ?_ h2 ?_
    · intro s _; decide
    · intro k t _ ht _
      rw [z0, if_pos ht]
      have u4 := ch_tot_le c.1 (i := t) (by omega)
      omega
    · intro t ht _
      rw [z0, if_pos ht]; omega
    · intro sy' h'
      refine hp r sy' (fun s hs => ⟨(h' s hs).1, ?_⟩)
      rw [(h' s hs).2, Int.mul_zero]
  · intro f i sy2 hi h2 ih
    refine br_f (nI_ge hi (by omega)) (xm_has (bm_lt hm h5) (by omega) (fun t => ?_) (fun t => ?_))
    · have d5 : (nI i * 6 + 5).toNatClampNeg = 6 * i + 5 := by
        rw [show nI i * 6 + 5 = nI (6 * i + 5) from ix_6 i 5]; exact nI_clamp (by omega)
      have v5 : vp_in (nI i * 6 + 5) 30 := by rw [show nI i * 6 + 5 = nI (6 * i + 5) from ix_6 i 5]; exact vp_in_nI (by omega) (by decide)
      have u4 := ch_tot_le c.1 (i := i) (by omega)
      refine br_f (by decide) (xm_tot c (by omega) ⟨v5, nm_e (nm_r (nI_1 i) (ih _ ?_))⟩)
      intro s hs c' hc
      rw [d5]
      by_cases q : 6 * s + c' = 6 * i + 5
      · have c5 : c' = 5 := by omega
        have si : s = i := by omega
        rw [q, pk_uLs, c5, si, cv_pos (by omega)]
        unfold xs_0
        simp only [if_true, t, Nat.lt_succ_self]
      · rw [pk_uLn q, h2 s hs c' hc]
        congr 1
        unfold xs_0
        by_cases c5 : c' = 5
        · have si : s ≠ i := by omega
          rw [if_pos c5, if_pos c5]
          have : (s < i) = (s < i + 1) := by
            apply propext
            constructor <;> intro <;> omega
          simp only [this]
        · rw [if_neg c5, if_neg c5]
    · refine br_t rfl (nm_r (nI_1 i) (ih _ ?_))
      intro s hs c' hc
      rw [h2 s hs c' hc]
      congr 1
      unfold xs_0
      by_cases si : s = i
      · rw [si]; simp [t]
      · have : (s < i) = (s < i + 1) := by
          apply propext
          constructor <;> intro <;> omega
        simp only [this]
theorem xm_visits {post : SX → Prop} (c : cr_X n w a su) {j m : Nat} (hj : j < n)
    (hm : bm_is n m (fun i => gr_L n (fun x y => 0 < ch_sw w x y) (fun y => y = j) (fun _ => False) (n - 1) i)) (r : sv_rank n w (fun s => m.testBit s))
    (hp : ∀ sy', (∀ s, s < n → sy' (6 * s + s) = Int64.ofInt (sv_D n w (fun s => m.testBit s)) ∧ sy' (6 * s + 5) = Int64.ofInt (if m.testBit s = true then sv_F n w (fun s => m.testBit s) s (fun t => if t = j then (ch_tot w j : Int) else 0) else 0)) → post (nI n, a, su, sy', ov, un)) : wpX_solveVisits post (nI n, a, su, sy, ov, un) (nI j) := by
  have h5 := c.1.2.1
  have mj : m.testBit j = true := (hm.2 j hj).mpr (gr_L_up (Nat.zero_le _) (show gr_L n _ _ _ 0 j from rfl))
  obtain ⟨l, hl⟩ := bm_exists n (fun i => gr_L n (fun x y => 0 < ch_sw w x y) (fun y => y = j) (fun _ => False) (n - 1) i ∧ ¬ i = j)
  have lm : l ||| 2 ^ j = m := by
    refine bm_ext (bm_or2 hl (bm_one hj)) hm (fun i _ => ⟨?_, ?_⟩)
    · rintro (q | q)
      · exact q.1
      · rw [q]; exact (hm.2 j hj).mp mj
    · intro q
      by_cases e : i = j
      · exact .inr e
      · exact .inl ⟨q, e⟩
  have d5 : (nI j * 6 + 5).toNatClampNeg = 6 * j + 5 := by
    rw [show nI j * 6 + 5 = nI (6 * j + 5) from ix_6 j 5]; exact nI_clamp (by omega)
  have v5 : vp_in (nI j * 6 + 5) 30 := by rw [show nI j * 6 + 5 = nI (6 * j + 5) from ix_6 j 5]; exact vp_in_nI (by omega) (by decide)
  have u4 := ch_tot_le c.1 (i := j) (by omega)
  unfold wpX_solveVisits
  dsimp only
  refine nm_r (bm_shl j (by omega)) (xm_lead (b := 0) c (bm_one hj) (bm_zero n) hl ?_)
  rw [bm_or, lm]
  refine nm_e (xm_layOut c (bm_lt hm h5) (fun sy1 h1 => ?_))
  dsimp only
  refine xm_tot c (by omega) ⟨v5, nm_e ?_⟩
  rw [d5]
  have z0 : ∀ t k, ba_S (fun x => if m.testBit x = true then 0 else (0 : Int) * (ch_sw w t x : Int)) k = 0 := fun t k => ba_S_zero (fun x _ => by simp)
  refine xm_solve c r (b := fun _ => 0) (r0 := fun t => if t = j then (ch_tot w j : Int) else 0) (v := fun t => if t = j then (ch_tot w j : Int) else 0) ?_ ?_ ?_ ?_ ?_
  · intro s _; decide
  · intro k t _ ht _
    rw [z0]
    split <;> omega
  · intro t ht _
    rw [z0]; omega
  · intro s hs c' hc
    by_cases q : 6 * s + c' = 6 * j + 5
    · have c5 : c' = 5 := by omega
      have si : s = j := by omega
      rw [q, pk_uLs, c5, si, cv_pos (by omega)]
      unfold xs_0
      simp only [if_true, mj]
    · rw [pk_uLn q, h1 s hs c' hc]
      congr 1
      unfold xs_0
      by_cases c5 : c' = 5
      · have si : s ≠ j := by omega
        rw [if_pos c5, if_pos c5]
        simp [si]
      · rw [if_neg c5, if_neg c5]
  · intro sy' h'
    refine hp sy' (fun s hs => ⟨(h' s hs).1, ?_⟩)
    rw [(h' s hs).2, Int.mul_zero]
theorem xm_solved {post : Int64 → Prop} {i : Nat} (hi : i < 5) {p q : Int} (e1 : sy (6 * i + 5) = Int64.ofInt p) (e2 : sy (6 * i + i) = Int64.ofInt q) (hp : 0 ≤ p) (hq : 0 < q) (bp : p.natAbs < 9223372036854775808) (bq : q < 9223372036854775808) {x y : Int64} (f : fp_is x y p q) {part : Int32} (h0 : part = 0 → post x) (h1 : ¬ part = 0 → post y) : wpX_solved post (nI n, a, su, sy, ov, un) (nI i) part := by
  have d5 : (nI i * 6 + 5).toNatClampNeg = 6 * i + 5 := by
    rw [show nI i * 6 + 5 = nI (6 * i + 5) from ix_6 i 5]; exact nI_clamp (by omega)
  have v5 : vp_in (nI i * 6 + 5) 30 := by rw [show nI i * 6 + 5 = nI (6 * i + 5) from ix_6 i 5]; exact vp_in_nI (by omega) (by decide)
  have di : (nI i * 6 + nI i).toNatClampNeg = 6 * i + i := by rw [ix_6]; exact nI_clamp (by omega)
  unfold wpX_solved
  dsimp only
  refine ⟨v5, by rw [ix_6]; exact vp_in_nI (by omega) (by decide), ?_⟩
  rw [d5, di, e1, e2]
  exact xm_part hp hq bp bq f h0 h1
end
