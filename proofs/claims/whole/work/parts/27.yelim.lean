/-! the reference lays out its equations and clears them -/
theorem ys_c_b {n : Nat} {w : Nat → Nat} (ok : ch_ok n w) {U : Nat → Bool} {v : Nat → Int} (hv : ∀ t, t < n → U t = true → (v t).natAbs ≤ 45) {c : Nat} (hc : c < n ∨ c = 5) : ∀ t, t < n → U t = true → (ys_c w U v c t).natAbs ≤ 45 := by
  intro t ht ut
  have h5 := ok.2.1
  unfold ys_c
  by_cases c5 : c = 5
  · rw [if_pos c5]; exact hv t ht ut
  · rw [if_neg c5]
    split
    · exact ch_N_b ok ht (by omega)
    · decide
theorem ys_c_col {w : Nat → Nat} {U : Nat → Bool} (v : Nat → Int) {k : Nat} (k5 : k < 5) (uk : U k = true) : ys_c w U v k = fun t => ch_N w t k := by
  funext t
  unfold ys_c
  rw [if_neg (by omega), if_pos uk]
theorem ys_P0 {w : Nat → Nat} {U : Nat → Bool} (v t : Nat → Int) {s : Nat} (us : U s = true) (c : Nat) : ys_P w U v t 0 s c = ys_c w U v c s := by
  unfold ys_P ye_mn
  rw [if_pos us, if_neg (by omega), Int.one_mul]; rfl
theorem ys_Q0 {w : Nat → Nat} {U : Nat → Bool} {s : Nat} (us : U s = true) : ys_Q w U 0 s = (ch_tot w s : Int) := by
  unfold ys_Q ye_md
  rw [if_pos us, if_neg (by omega), Int.mul_one]
  show _ * 1 = _
  rw [Int.mul_one]
theorem ys_Pn {w : Nat → Nat} {U : Nat → Bool} (v t : Nat → Int) {s : Nat} (us : U s = false) (k c : Nat) : ys_P w U v t k s c = if c = 5 then t s else if c = s then 1 else 0 := by
  unfold ys_P
  rw [us]; simp
theorem ys_Qn {w : Nat → Nat} {U : Nat → Bool} {s : Nat} (us : U s = false) (k : Nat) : ys_Q w U k s = 1 := by
  unfold ys_Q
  rw [us]; simp
section
variable {n : Nat} {w : Nat → Nat} {a : Nat → Int32} {fa fb : Int64} {up dn : Nat → Int64} {op : Nat → Int32} {tp bt nt nb : Nat → Int64}
theorem ym_equations {post : SY → Prop} (c : cr_Y n w a) {U : Nat → Bool} {each : Nat} (he : each ≤ 1) {t v : Nat → Int} (ht : ∀ s, s < n → t s = 0 ∨ t s = 1) (hop : ∀ s, s < n → (op s = 0 ↔ U s = false))
    (htp : ∀ s, s < n → tp s = Int64.ofInt (t s)) (hbt : ∀ s, s < n → bt s = Int64.ofInt 1) (hv : ∀ s, s < n → U s = true → ys_R w U each t s n = v s)
    (hp : ∀ fa' fb' up' dn', ys_M n up' dn' (ys_P w U v t 0) (ys_Q w U 0) → post (nI n, fa', fb', a, up', dn', op, tp, bt, nt, nb)) :
    wpY_equations post (nI n, fa, fb, a, up, dn, op, tp, bt, nt, nb) (nI each) := by
  have n5 := c.1.2.1
  have n1 := c.1.1
  refine loop_0 (fun f i (s : Int64 × Int64 × (Nat → Int64) × (Nat → Int64)) => wY_equations_2 post (nI each) f (nI i) (nI n) s.1 s.2.1 a s.2.2.1 s.2.2.2 op tp bt nt nb)
    (fun i s => ∀ r, r < i → ∀ c, (c < n ∨ c = 5) → fp_is (s.2.2.1 (6 * r + c)) (s.2.2.2 (6 * r + c)) (ys_P w U v t 0 r c) (ys_Q w U 0 r)) n (fa, fb, up, dn) ?_ ?_ ?_
  · intro r hr; omega
  · rintro f ⟨fa, fb, up', dn'⟩ g
    exact br_t (nI_le (Nat.le_refl n) (by omega)) (hp fa fb up' dn' g)
  · rintro f i ⟨fa, fb, up', dn'⟩ hi g ih
    dsimp only at g
    refine br_f (nI_ge hi (by omega)) ?_
    rw [cv_pos (by omega : each < 2 ^ 31)]
    have i5 : 6 * nI i + 5 = nI (6 * i + 5) := ix_6' i 5
    have ei : (nI i).toNatClampNeg = i := nI_clamp (by omega)
    refine ym_put (q := 1) i5 (by omega) (by decide) (by omega) (by decide) (fun x y fx => ?_)
    dsimp only
    refine loop_0 (fun f' j (s : Int64 × Int64 × (Nat → Int64) × (Nat → Int64)) => wY_equations_25 post (wY_equations_2 post (nI each) f) (nI each) (nI i) f' (nI j) (nI n) s.1 s.2.1 a s.2.2.1 s.2.2.2 op tp bt nt nb)
      (fun j s => (∀ r, r < i → ∀ c, (c < n ∨ c = 5) → fp_is (s.2.2.1 (6 * r + c)) (s.2.2.2 (6 * r + c)) (ys_P w U v t 0 r c) (ys_Q w U 0 r)) ∧ (∀ c, c < j → fp_is (s.2.2.1 (6 * i + c)) (s.2.2.2 (6 * i + c)) (if i = c then 1 else 0) 1) ∧ fp_is (s.2.2.1 (6 * i + 5)) (s.2.2.2 (6 * i + 5)) (if j = 0 ∨ U i = true then (each : Int) else t i) 1) n (x, y, vp_updL up' (6 * i + 5) x, vp_updL dn' (6 * i + 5) y) ?_ ?_ ?_
    · dsimp only
      refine ⟨?_, fun c hc => absurd hc (by omega), ?_⟩
      · intro r hr c' hc
        rw [pk_uLn (by omega), pk_uLn (by omega)]; exact g r hr c' hc
      · rw [pk_uLs, pk_uLs]; simpa using fx
    · rintro f' ⟨fa, fb, up2, dn2⟩ ⟨g1, g2, g3⟩
      dsimp only at g1 g2 g3
      refine br_t (nI_le (Nat.le_refl n) (by omega)) ⟨vp_in_nI (by omega) (by decide), ?_⟩
      dsimp only
      rw [ei]
      by_cases ui : U i = true
      · refine br_f (fun z => by have := (hop i hi).mp z; rw [ui] at this; cases this) ?_
        rw [if_pos (.inr ui)] at g3
        refine ym_take c he ht hop htp hbt hi g2 g3 (fun fa' fb' up3 dn3 k1 k2 k3 => ?_)
        dsimp only
        refine nm_r (nI_1 i) (ih (fa', fb', up3, dn3) ?_)
        intro r hr c' hc
        dsimp only
        by_cases ri : r = i
        · subst ri
          rw [ys_P0 v t ui, ys_Q0 ui]
          unfold ys_c
          by_cases c5 : c' = 5
          · rw [if_pos c5, c5, ← hv r hi ui]; exact k3
          · rw [if_neg c5]
            have := k2 c' (by omega)
            by_cases uc : U c' = true
            · rw [if_pos uc]; rw [if_pos uc] at this; exact this
            · have rc : ¬ r = c' := fun q => uc (q ▸ ui)
              rw [if_neg uc]; rw [if_neg uc, if_neg rc] at this; exact this
        · have k := k1 (6 * r + c') (by omega)
          rw [k.1, k.2]; exact g1 r (by omega) c' hc
      · have ui' : U i = false := by simpa using ui
        refine br_t ((hop i hi).mpr ui') (nm_r (nI_1 i) (ih (fa, fb, up2, dn2) ?_))
        intro r hr c' hc
        dsimp only
        by_cases ri : r = i
        · subst ri
          rw [ys_Pn v t ui', ys_Qn ui']
          by_cases c5 : c' = 5
          · rw [if_pos c5, c5]
            rw [if_neg (fun q => q.elim (fun z => by omega) ui)] at g3
            exact g3
          · rw [if_neg c5]
            have := g2 c' (by omega)
            by_cases rc : r = c'
            · rw [if_pos rc.symm]; rw [if_pos rc] at this; exact this
            · rw [if_neg (fun q => rc q.symm)]; rw [if_neg rc] at this; exact this
        · exact g1 r (by omega) c' hc
    · rintro f' j ⟨fa, fb, up2, dn2⟩ hj ⟨g1, g2, g3⟩ ih2
      dsimp only at g1 g2 g3
      refine br_f (nI_ge hj (by omega)) ?_
      have s50 : ∀ z0 : Int, z0 = (if i = j then 1 else 0) → wY_equations_50 post (wY_equations_2 post (nI each) f) (wY_equations_25 post (wY_equations_2 post (nI each) f) (nI each) (nI i) f') (nI each) (nI i) (nI j) (Int64.ofInt z0) (6 * nI i + nI j) (nI n) fa fb a up2 dn2 op tp bt nt nb := by
        intro z0 hz0
        have zb : z0.natAbs ≤ 1 := by rw [hz0]; split <;> decide
        refine ym_put (q := 1) (ix_6' i j) (by omega) (by decide) (by omega) (by decide) (fun x y fx => ?_)
        dsimp only
        refine ⟨vp_in_nI (by omega) (by decide), ?_⟩
        rw [ei]
        by_cases ui : U i = true
        · refine br_f (fun z => by have := (hop i hi).mp z; rw [ui] at this; cases this) (nm_r (nI_1 j) (ih2 (x, y, vp_updL up2 (6 * i + j) x, vp_updL dn2 (6 * i + j) y) ⟨?_, ?_, ?_⟩))
          · intro r hr c' hc
            dsimp only
            rw [pk_uLn (by omega), pk_uLn (by omega)]; exact g1 r hr c' hc
          · intro c' hc
            dsimp only
            by_cases e : c' = j
            · rw [e, pk_uLs, pk_uLs, ← hz0]; exact fx
            · rw [pk_uLn (by omega), pk_uLn (by omega)]; exact g2 c' (by omega)
          · dsimp only
            rw [pk_uLn (by omega), pk_uLn (by omega), if_pos (.inr ui)]
            rw [if_pos (.inr ui)] at g3
            exact g3
        · have ui' : U i = false := by simpa using ui
          refine br_t ((hop i hi).mpr ui') ⟨vp_in_nI (by omega) (by decide), vp_in_nI (by omega) (by decide), ?_⟩
          rw [htp i hi, hbt i hi]
          have tb : (t i).natAbs ≤ 1 := by rcases ht i hi with q | q <;> rw [q] <;> decide
          refine ym_put (q := 1) i5 (by omega) (by decide) (by omega) (by decide) (fun x2 y2 fx2 => ?_)
          dsimp only
          refine nm_r (nI_1 j) (ih2 (x2, y2, vp_updL (vp_updL up2 (6 * i + j) x) (6 * i + 5) x2, vp_updL (vp_updL dn2 (6 * i + j) y) (6 * i + 5) y2) ⟨?_, ?_, ?_⟩)
          · intro r hr c' hc
            dsimp only
            rw [pk_uLn (by omega), pk_uLn (by omega), pk_uLn (by omega), pk_uLn (by omega)]; exact g1 r hr c' hc
          · intro c' hc
            dsimp only
            have ne5 : 6 * i + c' ≠ 6 * i + 5 := by omega
            rw [pk_uLn (f := vp_updL up2 (6 * i + j) x) ne5, pk_uLn (f := vp_updL dn2 (6 * i + j) y) ne5]
            by_cases e : c' = j
            · rw [e, pk_uLs, pk_uLs, ← hz0]; exact fx
            · rw [pk_uLn (by omega), pk_uLn (by omega)]; exact g2 c' (by omega)
          · dsimp only
            rw [pk_uLs, pk_uLs, if_neg (fun q => q.elim (fun z => by omega) ui)]
            exact fx2
      by_cases e : i = j
      · exact br_t (by rw [e]) (s50 1 (by rw [if_pos e]))
      · exact br_f (fun q => e ((nI_eq (by omega) (by omega)).mp q)) (s50 0 (by rw [if_neg e]))
theorem ym_clear {post : SY → Prop} (c : cr_Y n w a) {U : Nat → Bool} (h : sv_ok n w U) {z : Nat} (hz : z < n) (uz : U z = false) {t v : Nat → Int} (hv : ∀ t, t < n → U t = true → (v t).natAbs ≤ 45)
    {k s : Nat} (hk : k < n) (uk : U k = true) (hs : s < n) (us : U s = true) (ne : s ≠ k)
    (g1 : ∀ c, (c < n ∨ c = 5) → fp_is (up (6 * s + c)) (dn (6 * s + c)) (ys_P w U v t k s c) (ys_Q w U k s))
    (g2 : ∀ c, (c < n ∨ c = 5) → fp_is (up (6 * k + c)) (dn (6 * k + c)) (ys_P w U v t k k c) (ys_Q w U k k))
    (hp : ∀ fa' fb' up' dn', (∀ x, (x < 6 * s ∨ 6 * s + 6 ≤ x) → up' x = up x ∧ dn' x = dn x) → (∀ c, (c < n ∨ c = 5) → fp_is (up' (6 * s + c)) (dn' (6 * s + c)) (ys_P w U v t (k + 1) s c) (ys_Q w U (k + 1) s)) → post (nI n, fa', fb', a, up', dn', op, tp, bt, nt, nb)) :
    wpY_clear post (nI n, fa, fb, a, up, dn, op, tp, bt, nt, nb) (nI s) (nI k) := by
  have n5 := c.1.2.1
  have tk := ch_tot_pos w k
  have mk1 : ye_mn w U k k = 1 := by unfold ye_mn; rw [if_neg (by omega)]
  have mk2 : ye_md w U k k = (ch_tot w k : Int) := by unfold ye_md; rw [if_neg (by omega), Int.mul_one]
  have l3 := ba_ops_len3 n5 hz uz hk uk
  have ni : k ∉ ba_ops U k := fun q => by have := (ba_ops_mem.mp q).1; omega
  have Dk : ba_F (ch_N w) (ba_ops U k) k (ys_c w U v k) = ba_D (ch_N w) (ba_ops U (k + 1)) := by
    rw [ys_c_col v (by omega) uk, ba_ops_succ uk, ba_stepD _ _ _ l3 ni]
  obtain ⟨s1, s2, s3, s4, s5, s6, _, _, _, s10, s11⟩ := ye_stage c.1 h hz uz hk uk hs us ne hv
  have Ps : ∀ c, ys_P w U v t k s c = ye_mn w U k s * ba_F (ch_N w) (ba_ops U k) s (ys_c w U v c) := fun c => by unfold ys_P; rw [if_pos us]
  have Qs : ys_Q w U k s = ye_md w U k s * ba_D (ch_N w) (ba_ops U k) := by unfold ys_Q; rw [if_pos us]
  have Pk : ∀ c, ys_P w U v t k k c = ba_F (ch_N w) (ba_ops U k) k (ys_c w U v c) := fun c => by unfold ys_P; rw [if_pos uk, mk1, Int.one_mul]
  have Qk : ys_Q w U k k = (ch_tot w k : Int) * ba_D (ch_N w) (ba_ops U k) := by unfold ys_Q; rw [if_pos uk, mk2]
  have Ps' : ∀ c, ys_P w U v t (k + 1) s c = ye_mn w U k s * ba_F (ch_N w) (ba_ops U (k + 1)) s (ys_c w U v c) := fun c => by unfold ys_P; rw [if_pos us, s10]
  have Qs' : ys_Q w U (k + 1) s = ye_md w U k s * ba_D (ch_N w) (ba_ops U (k + 1)) := by unfold ys_Q; rw [if_pos us, s11]
  have d1 : (6 * nI s + nI k).toNatClampNeg = 6 * s + k := by rw [ix_6']; exact nI_clamp (by omega)
  have d2 : (6 * nI k + nI k).toNatClampNeg = 6 * k + k := by rw [ix_6']; exact nI_clamp (by omega)
  have v1 : vp_in (6 * nI s + nI k) 30 := by rw [ix_6']; exact vp_in_nI (by omega) (by decide)
  have v2 : vp_in (6 * nI k + nI k) 30 := by rw [ix_6']; exact vp_in_nI (by omega) (by decide)
  have Tk : 0 < (ch_tot w k : Int) * ba_D (ch_N w) (ba_ops U k) := Int.mul_pos (by omega) s3
  have Sk : 0 < ye_md w U k s * ba_D (ch_N w) (ba_ops U k) := Int.mul_pos s2 s3
  have Sk' : 0 < ye_md w U k s * ba_D (ch_N w) (ba_ops U (k + 1)) := Int.mul_pos s2 s4
  unfold wpY_clear
  dsimp only
  refine ⟨v1, v1, v2, v2, ?_⟩
  rw [d1, d2]
  have f1 := g1 k (.inl hk)
  have f2 := g2 k (.inl hk)
  rw [Ps, Qs, ys_c_col v (by omega) uk] at f1
  rw [Pk, Qk, Dk] at f2
  refine ym_mulQ (p2 := ye_mn w U k s * ba_F (ch_N w) (ba_ops U k) s (fun t => ch_N w t k) * (ch_tot w k : Int)) (q2 := ye_md w U k s * ba_D (ch_N w) (ba_ops U (k + 1))) f1 f2 Sk s4 Tk Sk' (by grind) s5 s6 (fun x y fx => ?_)
  have fx := fp_neg fx
  dsimp only
  refine nm_e ?_
  refine loop_0 (fun f j (q : Int64 × Int64 × (Nat → Int64) × (Nat → Int64)) => wY_clear_63 post (nI s) (nI k) (-x) y f (nI j) (nI n) q.1 q.2.1 a q.2.2.1 q.2.2.2 op tp bt nt nb)
    (fun j q => (∀ x, (x < 6 * s ∨ 6 * s + j ≤ x) → q.2.2.1 x = up x ∧ q.2.2.2 x = dn x) ∧ (∀ c, c < j → (c < n ∨ c = 5) → fp_is (q.2.2.1 (6 * s + c)) (q.2.2.2 (6 * s + c)) (ys_P w U v t (k + 1) s c) (ys_Q w U (k + 1) s))) 6 (x, y, up, dn) ?_ ?_ ?_
  · exact ⟨fun x _ => ⟨rfl, rfl⟩, fun c hc => absurd hc (by omega)⟩
  · rintro f ⟨fa, fb, up', dn'⟩ ⟨k1, k2⟩
    exact br_t (by decide) (hp fa fb up' dn' k1 (fun c hc => k2 c (by omega) hc))
  · rintro f j ⟨fa, fb, up', dn'⟩ hj ⟨k1, k2⟩ ih
    dsimp only at k1 k2
    have e1 : (6 * nI s + nI j).toNatClampNeg = 6 * s + j := by rw [ix_6']; exact nI_clamp (by omega)
    have e2 : (6 * nI k + nI j).toNatClampNeg = 6 * k + j := by rw [ix_6']; exact nI_clamp (by omega)
    have w1 : vp_in (6 * nI s + nI j) 30 := by rw [ix_6']; exact vp_in_nI (by omega) (by decide)
    have w2 : vp_in (6 * nI k + nI j) 30 := by rw [ix_6']; exact vp_in_nI (by omega) (by decide)
    refine br_f (nI_ge (b := 6) hj (by decide)) ⟨w2, w2, ?_⟩
    dsimp only
    rw [e2, (k1 (6 * k + j) (by omega)).1, (k1 (6 * k + j) (by omega)).2]
    have go : ∀ x' y' : Int64, ((j < n ∨ j = 5) → fp_is x' y' (ys_P w U v t (k + 1) s j) (ys_Q w U (k + 1) s)) → wY_clear_63 post (nI s) (nI k) (-x) y f (nI (j + 1)) (nI n) x' y' a (vp_updL up' (6 * s + j) x') (vp_updL dn' (6 * s + j) y') op tp bt nt nb := by
      intro x' y' hx
      refine ih (x', y', vp_updL up' (6 * s + j) x', vp_updL dn' (6 * s + j) y') ⟨?_, ?_⟩
      · intro r hr
        dsimp only
        rw [pk_uLn (by omega), pk_uLn (by omega)]; exact k1 r (by omega)
      · intro c' hc hv'
        dsimp only
        by_cases e : c' = j
        · rw [e, pk_uLs, pk_uLs]; exact hx (e ▸ hv')
        · rw [pk_uLn (by omega), pk_uLn (by omega)]; exact k2 c' (by omega) hv'
    by_cases good : j < n ∨ j = 5
    · obtain ⟨_, _, _, _, _, _, r7, r8, r9, _, _⟩ := ye_stage c.1 h hz uz hk uk hs us ne (ys_c_b c.1 hv good)
      have q1 := g1 j good
      have q2 := g2 j good
      rw [Ps, Qs] at q1
      rw [Pk, Qk] at q2
      have V0 : 0 < ye_md w U k s * ba_D (ch_N w) (ba_ops U k) * ba_D (ch_N w) (ba_ops U (k + 1)) := Int.mul_pos Sk s4
      refine ym_mulP (p2 := -(ye_mn w U k s * ba_F (ch_N w) (ba_ops U k) s (fun t => ch_N w t k) * ba_F (ch_N w) (ba_ops U k) k (ys_c w U v j))) (q2 := ye_md w U k s * ba_D (ch_N w) (ba_ops U k) * ba_D (ch_N w) (ba_ops U (k + 1))) q2 fx Tk Sk' V0 (by grind) (by rw [Int.natAbs_neg]; omega) r8 (fun x1 y1 fx1 => ?_)
      dsimp only
      refine ⟨w1, w1, ?_⟩
      rw [e1, (k1 (6 * s + j) (by omega)).1, (k1 (6 * s + j) (by omega)).2]
      have q3 := fp_eq (p' := ye_mn w U k s * ba_F (ch_N w) (ba_ops U k) s (ys_c w U v j) * ba_D (ch_N w) (ba_ops U (k + 1))) (q' := ye_md w U k s * ba_D (ch_N w) (ba_ops U k) * ba_D (ch_N w) (ba_ops U (k + 1))) Sk V0 (by grind) q1
      refine ym_addV V0 q3 fx1 (by rw [Int.natAbs_neg]; exact r7) r8 (fun x2 y2 fx2 => ?_)
      dsimp only
      refine ⟨w1, nm_e ⟨w1, nm_e (nm_r (nI_1 j) (go x2 y2 (fun _ => ?_)))⟩⟩
      rw [Ps', Qs']
      refine fp_eq V0 Sk' ?_ fx2
      have : ye_mn w U k s * ba_F (ch_N w) (ba_ops U k) s (ys_c w U v j) * ba_D (ch_N w) (ba_ops U (k + 1)) + -(ye_mn w U k s * ba_F (ch_N w) (ba_ops U k) s (fun t => ch_N w t k) * ba_F (ch_N w) (ba_ops U k) k (ys_c w U v j)) = ye_mn w U k s * ba_F (ch_N w) (ba_ops U (k + 1)) s (ys_c w U v j) * ba_D (ch_N w) (ba_ops U k) := by
        rw [← r9]; omega
      rw [this]
      grind
    · obtain ⟨x1, y1, m1⟩ := ym_mulT (fa := fa) (fb := fb) (a := a) (up := up') (dn := dn') (op := op) (tp := tp) (bt := bt) (nt := nt) (nb := nb) (nI n) (up (6 * k + j)) (dn (6 * k + j)) (-x) y
      refine m1 _ ?_
      dsimp only
      refine ⟨w1, w1, ?_⟩
      rw [e1]
      obtain ⟨x2, y2, m2⟩ := ym_addT (fa := x1) (fb := y1) (a := a) (up := up') (dn := dn') (op := op) (tp := tp) (bt := bt) (nt := nt) (nb := nb) (nI n) (up' (6 * s + j)) (dn' (6 * s + j)) x1 y1
      refine m2 _ ?_
      dsimp only
      exact ⟨w1, nm_e ⟨w1, nm_e (nm_r (nI_1 j) (go x2 y2 (fun q => absurd q good)))⟩⟩
theorem ym_exch {post : SY → Prop} {st : Int32} {p : Nat} (hp5 : p < 5) (hp : post (st, fa, fb, a, up, dn, op, tp, bt, nt, nb)) : wpY_exchangeRows post (st, fa, fb, a, up, dn, op, tp, bt, nt, nb) (nI p) (nI p) := by
  refine loop_0 (fun f j (_ : Unit) => wY_exchangeRows_2 post (nI p) (nI p) st fa fb f (nI j) a up dn op tp bt nt nb) (fun _ _ => True) 6 () trivial ?_ ?_
  · intro f _ _
    exact br_t (by decide) hp
  · intro f j _ hj _ ih
    have e : (6 * nI p + nI j).toNatClampNeg = 6 * p + j := by rw [ix_6']; exact nI_clamp (by omega)
    have v1 : vp_in (6 * nI p + nI j) 30 := by rw [ix_6']; exact vp_in_nI (by omega) (by decide)
    have id1 : ∀ (g : Nat → Int64) (k : Nat), vp_updL g k (g k) = g := by
      intro g k
      funext x
      unfold vp_updL
      split
      · rename_i q; rw [q]
      · rfl
    refine br_f (nI_ge (b := 6) hj (by decide)) ⟨v1, nm_e ⟨v1, nm_e ⟨v1, v1, nm_r (id1 _ _) ⟨v1, v1, nm_r (id1 _ _) ⟨v1, nm_r (id1 _ _) ⟨v1, nm_r (id1 _ _) (nm_r (nI_1 j) (ih () trivial))⟩⟩⟩⟩⟩⟩
end
