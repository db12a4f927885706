/-! the reference solves its equations -/
theorem ys_keep {n : Nat} {w : Nat → Nat} (ok : ch_ok n w) {U : Nat → Bool} (h : sv_ok n w U) {z : Nat} (hz : z < n) (uz : U z = false) {t v : Nat → Int} (hv : ∀ t, t < n → U t = true → (v t).natAbs ≤ 45)
    {k s : Nat} (hk : k < n) (hs : s < n) (ne : s ≠ k) {c : Nat} (hc : c < n ∨ c = 5) {x y : Int64}
    (zero : U k = true → U s = true → ba_F (ch_N w) (ba_ops U k) s (fun t => ch_N w t k) = 0)
    (f : fp_is x y (ys_P w U v t k s c) (ys_Q w U k s)) : fp_is x y (ys_P w U v t (k + 1) s c) (ys_Q w U (k + 1) s) := by
  by_cases us : U s = true
  · by_cases uk : U k = true
    · obtain ⟨s1, s2, s3, s4, _, _, _, _, s9, s10, s11⟩ := ye_stage ok h hz uz hk uk hs us ne (ys_c_b ok hv hc)
      rw [zero uk us] at s9
      unfold ys_P ys_Q at f ⊢
      rw [if_pos us, if_pos us] at f ⊢
      rw [s10, s11]
      refine fp_eq (Int.mul_pos s2 s3) (Int.mul_pos s2 s4) ?_ f
      have e : ye_mn w U k s * ba_F (ch_N w) (ba_ops U k) s (ys_c w U v c) * ba_D (ch_N w) (ba_ops U (k + 1)) = ye_mn w U k s * ba_F (ch_N w) (ba_ops U (k + 1)) s (ys_c w U v c) * ba_D (ch_N w) (ba_ops U k) := by
        rw [← s9]; grind
      grind
    · have e : ba_ops U (k + 1) = ba_ops U k := ba_ops_n uk
      have m1 : ye_mn w U (k + 1) s = ye_mn w U k s := by
        unfold ye_mn
        by_cases q : s < k
        · rw [if_pos q, if_pos (by omega)]
        · rw [if_neg q, if_neg (by omega)]
      have m2 : ye_md w U (k + 1) s = ye_md w U k s := by
        unfold ye_md
        by_cases q : s < k
        · rw [if_pos q, if_pos (by omega)]
        · rw [if_neg q, if_neg (by omega)]
      unfold ys_P ys_Q at f ⊢
      rw [e, m1, m2]; exact f
  · have us' : U s = false := by simpa using us
    rw [ys_Pn v t us', ys_Qn us'] at f ⊢
    exact f
theorem ys_rowk {n : Nat} {w : Nat → Nat} (ok : ch_ok n w) {U : Nat → Bool} (h : sv_ok n w U) {z : Nat} (hz : z < n) (uz : U z = false) {t v : Nat → Int}
    {k : Nat} (hk : k < n) {c : Nat} {x y : Int64} (f : fp_is x y (ys_P w U v t k k c) (ys_Q w U k k)) : fp_is x y (ys_P w U v t (k + 1) k c) (ys_Q w U (k + 1) k) := by
  by_cases uk : U k = true
  · have q1 := ys_Qpos ok h (k := k) (s := k) (by omega) hk
    have q2 := ys_Qpos ok h (k := k + 1) (s := k) (by omega) hk
    refine fp_eq q1 q2 ?_ f
    have ni : k ∉ ba_ops U k := fun q => by have := (ba_ops_mem.mp q).1; omega
    have a1 : ye_mn w U k k = 1 := by unfold ye_mn; rw [if_neg (by omega)]
    have a2 : ye_md w U k k = (ch_tot w k : Int) := by unfold ye_md; rw [if_neg (by omega), Int.mul_one]
    have b1 : ye_mn w U (k + 1) k = ba_D (ch_N w) (ba_ops U (k + 1)) := by unfold ye_mn; rw [if_pos (by omega)]
    have b2 : ye_md w U (k + 1) k = (ch_tot w k : Int) * ba_D (ch_N w) (ba_ops U k) := by unfold ye_md; rw [if_pos (by omega)]
    have b3 : ba_F (ch_N w) (ba_ops U (k + 1)) k (ys_c w U v c) = ba_F (ch_N w) (ba_ops U k) k (ys_c w U v c) := by rw [ba_ops_succ uk, ba_stepP _ _ _ _ (ba_ops_len3 ok.2.1 hz uz hk uk) ni]
    unfold ys_P ys_Q
    simp only [uk, if_true]
    rw [a1, a2, b1, b2, b3]
    grind
  · have us' : U k = false := by simpa using uk
    rw [ys_Pn v t us', ys_Qn us'] at f ⊢
    exact f
def ys_at (k s r : Nat) : Nat := if r < s ∧ r ≠ k then k + 1 else k
theorem ys_atT {k s r : Nat} (h : r < s ∧ r ≠ k) : ys_at k s r = k + 1 := if_pos h
theorem ys_atF {k s r : Nat} (h : ¬ (r < s ∧ r ≠ k)) : ys_at k s r = k := if_neg h
section
variable {n : Nat} {w : Nat → Nat} {a : Nat → Int32} {fa fb : Int64} {up dn : Nat → Int64} {op : Nat → Int32} {tp bt nt nb : Nat → Int64}
theorem ym_last {post : SY → Prop} (ok : ch_ok n w) {U : Nat → Bool} (r : sv_rank n w U) {t v : Nat → Int} (ht : ∀ s, s < n → t s = 0 ∨ t s = 1) (hvb : ∀ s, s < n → U s = true → (v s).natAbs ≤ 45)
    (g : ys_M n up dn (ys_P w U v t n) (ys_Q w U n))
    (hp : ∀ fa' fb' tp' bt', (∀ s, s < n → fp_is (tp' s) (bt' s) (if U s = true then sv_F n w U s v else t s) (if U s = true then sv_D n w U else 1)) → post (nI n, fa', fb', a, up, dn, op, tp', bt', nt, nb)) :
    ∃ f, wY_solve_127 post f 0 (nI n) fa fb a up dn op tp bt nt nb := by
  have n5 := ok.2.1
  have h := sv_of ok r
  have Db := sv_Db ok r
  obtain ⟨z, _, hz, uz, _⟩ := r
  refine loop_0 (fun f i (s : Int64 × Int64 × (Nat → Int64) × (Nat → Int64)) => wY_solve_127 post f (nI i) (nI n) s.1 s.2.1 a up dn op s.2.2.1 s.2.2.2 nt nb)
    (fun i s => ∀ r, r < i → fp_is (s.2.2.1 r) (s.2.2.2 r) (if U r = true then sv_F n w U r v else t r) (if U r = true then sv_D n w U else 1)) n (fa, fb, tp, bt) ?_ ?_ ?_
  · intro r hr; omega
  · rintro f ⟨fa, fb, tp', bt'⟩ k
    exact br_t (nI_le (Nat.le_refl n) (by omega)) (hp fa fb tp' bt' k)
  · rintro f i ⟨fa, fb, tp', bt'⟩ hi k ih
    dsimp only at k
    have d1 : (6 * nI i + nI i).toNatClampNeg = 6 * i + i := by rw [ix_6']; exact nI_clamp (by omega)
    have v1 : vp_in (6 * nI i + nI i) 30 := by rw [ix_6']; exact vp_in_nI (by omega) (by decide)
    have d5 : (6 * nI i + 5).toNatClampNeg = 6 * i + 5 := by
      rw [show 6 * nI i + 5 = nI (6 * i + 5) from ix_6' i 5]; exact nI_clamp (by omega)
    have v5 : vp_in (6 * nI i + 5) 30 := by rw [show 6 * nI i + 5 = nI (6 * i + 5) from ix_6' i 5]; exact vp_in_nI (by omega) (by decide)
    have ei : (nI i).toNatClampNeg = i := nI_clamp (by omega)
    have vi : vp_in (nI i) 5 := vp_in_nI (by omega) (by decide)
    have f1 := g i hi i (.inl hi)
    have f2 := g i hi 5 (.inr rfl)
    have Q0 := ys_Qpos ok h (k := n) (s := i) (Nat.le_refl n) hi
    refine br_f (nI_ge hi (by omega)) ⟨v1, ?_⟩
    dsimp only
    rw [d1, d5]
    have go : ∀ x y : Int64, fp_is x y (if U i = true then sv_F n w U i v else t i) (if U i = true then sv_D n w U else 1) → (∀ q, q = vp_updL tp' (nI i).toNatClampNeg x → (vp_in (nI i) 5 ∧ ∀ q2, q2 = vp_updL bt' (nI i).toNatClampNeg y → ∀ q3, q3 = nI i + 1 → wY_solve_127 post f q3 (nI n) x y a up dn op q q2 nt nb)) := by
      intro x y fx
      rw [ei]
      refine nm_e ⟨vi, nm_e (nm_r (nI_1 i) (ih (x, y, vp_updL tp' i x, vp_updL bt' i y) ?_))⟩
      intro r hr
      dsimp only
      by_cases e : r = i
      · rw [e, pk_uLs, pk_uLs]; exact fx
      · rw [pk_uLn e, pk_uLn e]; exact k r (by omega)
    by_cases ui : U i = true
    · have Fi : ba_F (ch_N w) (ba_ops U n) i (ys_c w U v i) = sv_D n w U := by
        rw [ys_c_col v (by omega) ui]
        obtain ⟨g', T⟩ := h
        have := (T n (Nat.le_refl n)).2.2.2.1 i hi ui i hi ui
        rw [if_pos rfl] at this
        exact this
      have c5 : ys_c w U v 5 = v := by funext t; unfold ys_c; rw [if_pos rfl]
      have mn0 : 0 < ye_mn w U n i := by
        unfold ye_mn
        rw [if_pos hi]
        obtain ⟨g', T⟩ := h
        exact (T (i + 1) (by omega)).1
      unfold ys_P at f1 f2
      rw [if_pos ui, Fi] at f1
      rw [if_pos ui, c5] at f2
      have nz : 0 < ye_mn w U n i * sv_D n w U := Int.mul_pos mn0 Db.1
      have Fb := sv_Fb ok hi ui hvb
      refine br_f (fun q => by have := (fp_zero Q0 f1).mp q; omega) ⟨v5, v5, v1, v1, ?_⟩
      refine ym_mulQ (p2 := sv_F n w U i v) (q2 := sv_D n w U) f2 f1 Q0 nz Q0 Db.1 ?_ (by omega) (by omega) (fun x y fx => ?_)
      · show ye_mn w U n i * sv_F n w U i v * ys_Q w U n i * sv_D n w U = _
        grind
      · dsimp only
        refine ⟨vi, go x y ?_⟩
        rw [if_pos ui, if_pos ui]; exact fx
    · have ui' : U i = false := by simpa using ui
      rw [ys_Pn v t ui', ys_Qn ui'] at f1 f2
      rw [if_neg (by omega), if_pos rfl] at f1
      rw [if_pos rfl] at f2
      have tb : (t i).natAbs ≤ 1 := by rcases ht i hi with q | q <;> rw [q] <;> decide
      refine br_f (fun q => by have := (fp_zero (by decide) f1).mp q; omega) ⟨v5, v5, v1, v1, ?_⟩
      refine ym_mulQ (p2 := t i) (q2 := 1) f2 f1 (by decide) (by decide) (by decide) (by decide) (by omega) (by omega) (by decide) (fun x y fx => ?_)
      dsimp only
      refine ⟨vi, go x y ?_⟩
      rw [if_neg ui, if_neg ui]; exact fx
theorem ym_solve {post : SY → Prop} (c : cr_Y n w a) {U : Nat → Bool} (r : sv_rank n w U) {each : Nat} (he : each ≤ 1) {t v : Nat → Int} (ht : ∀ s, s < n → t s = 0 ∨ t s = 1) (hop : ∀ s, s < n → (op s = 0 ↔ U s = false))
    (htp : ∀ s, s < n → tp s = Int64.ofInt (t s)) (hbt : ∀ s, s < n → bt s = Int64.ofInt 1) (hv : ∀ s, s < n → U s = true → ys_R w U each t s n = v s) (hvb : ∀ s, s < n → U s = true → (v s).natAbs ≤ 45)
    (hp : ∀ fa' fb' up' dn' tp' bt', (∀ s, s < n → fp_is (tp' s) (bt' s) (if U s = true then sv_F n w U s v else t s) (if U s = true then sv_D n w U else 1)) → post (nI n, fa', fb', a, up', dn', op, tp', bt', nt, nb)) :
    wpY_solve post (nI n, fa, fb, a, up, dn, op, tp, bt, nt, nb) (nI each) := by
  have ok := c.1
  have n5 := ok.2.1
  have n1 := ok.1
  have h := sv_of ok r
  have r' := r
  obtain ⟨z, _, hz, uz, _⟩ := r
  unfold wpY_solve
  dsimp only
  refine ym_equations c he ht hop htp hbt hv (fun fa1 fb1 up1 dn1 g1 => ?_)
  dsimp only
  refine loop_0 (fun f k (s : Int64 × Int64 × (Nat → Int64) × (Nat → Int64)) => wY_solve_7 post f (nI k) (nI n) s.1 s.2.1 a s.2.2.1 s.2.2.2 op tp bt nt nb)
    (fun k s => ys_M n s.2.2.1 s.2.2.2 (ys_P w U v t k) (ys_Q w U k)) n (fa1, fb1, up1, dn1) g1 ?_ ?_
  · rintro f ⟨fa, fb, up, dn⟩ g
    refine br_t (nI_le (Nat.le_refl n) (by omega)) ?_
    exact ym_last ok r' ht hvb g (fun fa' fb' tp' bt' k => hp fa' fb' up dn tp' bt' k)
  · rintro f k ⟨fa, fb, up, dn⟩ hk g ih
    dsimp only at g
    refine br_f (nI_ge hk (by omega)) ?_
    dsimp only
    have d1 : (6 * nI k + nI k).toNatClampNeg = 6 * k + k := by rw [ix_6']; exact nI_clamp (by omega)
    have v1 : vp_in (6 * nI k + nI k) 30 := by rw [ix_6']; exact vp_in_nI (by omega) (by decide)
    have Q0 := ys_Qpos ok h (k := k) (s := k) (by omega) hk
    have Pk : ys_P w U v t k k k ≠ 0 := by
      unfold ys_P
      by_cases uk : U k = true
      · rw [if_pos uk]
        have ni : k ∉ ba_ops U k := fun q => by have := (ba_ops_mem.mp q).1; omega
        have mk1 : ye_mn w U k k = 1 := by unfold ye_mn; rw [if_neg (by omega)]
        have D := sv_DT ok h hz uz (k := k + 1) (by omega)
        rw [mk1, ys_c_col v (by omega) uk, ← ba_stepD _ _ _ (ba_ops_len3 n5 hz uz hk uk) ni, ← ba_ops_succ uk]
        omega
      · rw [if_neg uk, if_neg (by omega), if_pos rfl]; decide
    have piv : ¬ up (6 * k + k) = 0 := fun q => Pk ((fp_zero Q0 (g k hk k (.inl hk))).mp q)
    have s49 : wY_solve_49 post (wY_solve_7 post f) (nI k) (nI k) (nI n) fa fb a up dn op tp bt nt nb := by
      unfold wY_solve_49
      refine ym_exch (by omega) ?_
      dsimp only
      refine loop_0 (fun f' s (q : Int64 × Int64 × (Nat → Int64) × (Nat → Int64)) => wY_solve_58 post (wY_solve_7 post f) (nI k) f' (nI s) (nI n) q.1 q.2.1 a q.2.2.1 q.2.2.2 op tp bt nt nb)
        (fun s q => ∀ r, r < n → ∀ c, (c < n ∨ c = 5) → fp_is (q.2.2.1 (6 * r + c)) (q.2.2.2 (6 * r + c)) (ys_P w U v t (ys_at k s r) r c) (ys_Q w U (ys_at k s r) r)) n (fa, fb, up, dn) ?_ ?_ ?_
      · intro r hr c' hc
        rw [ys_atF (by omega)]; exact g r hr c' hc
      · rintro f' ⟨fa, fb, up, dn⟩ g2
        refine br_t (nI_le (Nat.le_refl n) (by omega)) (nm_r (nI_1 k) (ih (fa, fb, up, dn) ?_))
        intro r hr c' hc
        have := g2 r hr c' hc
        dsimp only at this ⊢
        by_cases q : r = k
        · rw [ys_atF (by omega)] at this
          rw [q] at this ⊢
          exact ys_rowk ok h hz uz hk this
        · rw [ys_atT ⟨hr, q⟩] at this
          exact this
      · rintro f' s ⟨fa, fb, up2, dn2⟩ hs g2 ih2
        dsimp only at g2
        have e1 : (6 * nI s + nI k).toNatClampNeg = 6 * s + k := by rw [ix_6']; exact nI_clamp (by omega)
        have w1 : vp_in (6 * nI s + nI k) 30 := by rw [ix_6']; exact vp_in_nI (by omega) (by decide)
        have rk : ∀ c', (c' < n ∨ c' = 5) → fp_is (up2 (6 * k + c')) (dn2 (6 * k + c')) (ys_P w U v t k k c') (ys_Q w U k k) := by
          intro c' hc
          have := g2 k hk c' hc
          rwa [ys_atF (by omega)] at this
        have piv2 : ¬ up2 (6 * k + k) = 0 := fun q => Pk ((fp_zero Q0 (rk k (.inl hk))).mp q)
        refine br_f (nI_ge hs (by omega)) ?_
        dsimp only
        by_cases e : s = k
        · refine br_t (by rw [e]) (nm_r (nI_1 s) (ih2 (fa, fb, up2, dn2) ?_))
          intro r hr c' hc
          have := g2 r hr c' hc
          dsimp only
          by_cases q : r < s ∧ r ≠ k
          · rw [ys_atT q] at this; rw [ys_atT (by omega)]; exact this
          · rw [ys_atF q] at this; rw [ys_atF (by omega)]; exact this
        · refine br_f (fun q => e ((nI_eq (by omega) (by omega)).mp q)) ⟨w1, ?_⟩
          rw [e1, d1]
          have rs : ∀ c', (c' < n ∨ c' = 5) → fp_is (up2 (6 * s + c')) (dn2 (6 * s + c')) (ys_P w U v t k s c') (ys_Q w U k s) := by
            intro c' hc
            have := g2 s hs c' hc
            rwa [ys_atF (by omega)] at this
          have others : ∀ {up3 dn3 : Nat → Int64}, (∀ x, (x < 6 * s ∨ 6 * s + 6 ≤ x) → up3 x = up2 x ∧ dn3 x = dn2 x) → (∀ c', (c' < n ∨ c' = 5) → fp_is (up3 (6 * s + c')) (dn3 (6 * s + c')) (ys_P w U v t (k + 1) s c') (ys_Q w U (k + 1) s)) → ∀ r, r < n → ∀ c', (c' < n ∨ c' = 5) → fp_is (up3 (6 * r + c')) (dn3 (6 * r + c')) (ys_P w U v t (ys_at k (s + 1) r) r c') (ys_Q w U (ys_at k (s + 1) r) r) := by
            intro up3 dn3 k1 k2 r hr c' hc
            by_cases q : r = s
            · subst q
              rw [ys_atT ⟨by omega, e⟩]; exact k2 c' hc
            · rw [(k1 (6 * r + c') (by omega)).1, (k1 (6 * r + c') (by omega)).2]
              have := g2 r hr c' hc
              by_cases q2 : r < s ∧ r ≠ k
              · rw [ys_atT q2] at this; rw [ys_atT (by omega)]; exact this
              · rw [ys_atF q2] at this; rw [ys_atF (by omega)]; exact this
          have Qs := ys_Qpos ok h (k := k) (s := s) (by omega) hs
          by_cases uz2 : up2 (6 * s + k) = 0
          · refine br_t uz2 (nm_r (nI_1 s) (ih2 (fa, fb, up2, dn2) ?_))
            refine others (fun _ _ => ⟨rfl, rfl⟩) (fun c' hc => ?_)
            refine ys_keep ok h hz uz hvb hk hs e hc (fun uk us => ?_) (rs c' hc)
            have p0 := (fp_zero Qs (rs k (.inl hk))).mp uz2
            unfold ys_P at p0
            rw [if_pos us, ys_c_col v (by omega) uk] at p0
            have m0 := (ye_stage ok h hz uz hk uk hs us e hvb).1
            rcases Int.mul_eq_zero.mp p0 with q | q
            · omega
            · exact q
          · refine br_f uz2 ⟨v1, br_f piv2 ?_⟩
            have P0 : ys_P w U v t k s k ≠ 0 := fun q => uz2 ((fp_zero Qs (rs k (.inl hk))).mpr q)
            have us : U s = true := by
              cases q : U s
              · rw [ys_Pn v t q, if_neg (by omega), if_neg (Ne.symm e)] at P0
                exact absurd rfl P0
              · rfl
            have uk : U k = true := by
              cases q : U k
              · exfalso
                apply P0
                unfold ys_P
                rw [if_pos us]
                have e0 : ys_c w U v k = fun _ => 0 := by
                  funext t
                  unfold ys_c
                  rw [if_neg (by omega), q]; simp
                obtain ⟨g', T⟩ := h
                rw [e0, ba_lin0 (fun v u b => (T k (by omega)).2.1 s hs us v u b), Int.mul_zero]
              · rfl
            refine ym_clear c h hz uz hvb hk uk hs us e rs rk (fun fa' fb' up3 dn3 k1 k2 => ?_)
            dsimp only
            exact nm_r (nI_1 s) (ih2 (fa', fb', up3, dn3) (others k1 k2))
    refine ⟨1, ?_⟩
    exact br_c (fun _ => s49) (fun _ => ⟨v1, by rw [d1]; exact br_f piv s49⟩)
end
