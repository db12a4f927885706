/-! after -/
def af_p (w : Nat → Nat) : Nat → Nat
  | 0 => 1
  | m + 1 => af_p w m * ch_tot w m
def af_c (w : Nat → Nat) (k : Nat) : Nat → Nat
  | 0 => 1
  | m + 1 => if m = k then af_c w k m else af_c w k m * ch_tot w m
theorem af_ge (w : Nat → Nat) (k : Nat) : ∀ m, m ≤ k → af_c w k m = af_p w m := by
  intro m
  induction m with
  | zero => intro _; rfl
  | succ m ih =>
    intro h
    unfold af_c af_p
    rw [if_neg (by omega), ih (by omega)]
theorem af_cp (w : Nat → Nat) (k : Nat) : ∀ m, k < m → af_c w k m * ch_tot w k = af_p w m := by
  intro m
  induction m with
  | zero => intro h; omega
  | succ m ih =>
    intro h
    unfold af_c af_p
    by_cases e : m = k
    · rw [if_pos e, af_ge w k m (by omega), e]
    · rw [if_neg e, ← ih (by omega)]
      exact Nat.mul_right_comm _ _ _
theorem af_pos (w : Nat → Nat) : ∀ m, 1 ≤ af_p w m := by
  intro m
  induction m with
  | zero => exact Nat.le_refl 1
  | succ m ih => unfold af_p; exact Nat.mul_pos ih (ch_tot_pos w m)
theorem af_le {n : Nat} {w : Nat → Nat} (ok : ch_ok n w) : ∀ m, m ≤ 5 → af_p w m ≤ 45 ^ m := by
  intro m
  induction m with
  | zero => intro _; exact Nat.le_refl 1
  | succ m ih =>
    intro h
    unfold af_p
    rw [Nat.pow_succ]
    exact Nat.mul_le_mul (ih (by omega)) (ch_tot_le ok (by omega))
theorem af_n {n : Nat} {w : Nat → Nat} (ok : ch_ok n w) : af_p w n ≤ 184528125 := by
  have h5 := ok.2.1
  refine Nat.le_trans (af_le ok n h5) ?_
  exact Nat.pow_le_pow_right (n := 45) (i := n) (j := 5) (by decide) h5
def af_T (w : Nat → Nat) (i j m : Nat) : Int := ba_S (fun k => (ch_sw w i k : Int) * ((ch_sw w k j : Int) * (af_c w k m : Int))) m
theorem af_Ts (w : Nat → Nat) (i j m : Nat) : af_T w i j (m + 1) = af_T w i j m * (ch_tot w m : Int) + ((ch_sw w i m * ch_sw w m j : Nat) : Int) * (af_p w m : Int) := by
  unfold af_T
  simp only [ba_S]
  have e1 : ba_S (fun k => (ch_sw w i k : Int) * ((ch_sw w k j : Int) * (af_c w k (m + 1) : Int))) m = ba_S (fun k => (ch_tot w m : Int) * ((ch_sw w i k : Int) * ((ch_sw w k j : Int) * (af_c w k m : Int)))) m := by
    apply ba_S_congr
    intro k hk
    have : af_c w k (m + 1) = af_c w k m * ch_tot w m := by
      show (if m = k then af_c w k m else af_c w k m * ch_tot w m) = _
      rw [if_neg (by omega)]
    rw [this, Int.natCast_mul]; grind
  have e2 : af_c w m (m + 1) = af_p w m := by
    show (if m = m then af_c w m m else af_c w m m * ch_tot w m) = _
    rw [if_pos rfl, af_ge w m m (Nat.le_refl m)]
  rw [e1, ba_S_mul, e2, Int.natCast_mul]; grind
theorem af_Tb {n : Nat} {w : Nat → Nat} (ok : ch_ok n w) {i j : Nat} (hi : i < n) (hj : j < n) : 0 ≤ af_T w i j n ∧ af_T w i j n ≤ 184528125 * (ch_tot w i : Int) ∧ ∀ k, k < n → 0 ≤ (ch_sw w k j : Int) * (af_c w k n : Int) ∧ (ch_sw w k j : Int) * (af_c w k n : Int) ≤ 184528125 := by
  have p := af_n ok
  have B : ∀ k, k < n → 0 ≤ (ch_sw w k j : Int) * (af_c w k n : Int) ∧ (ch_sw w k j : Int) * (af_c w k n : Int) ≤ 184528125 := by
    intro k hk
    have a := af_cp w k n hk
    have s := ch_sw_le_tot ok hk hj
    have m : ch_sw w k j * af_c w k n ≤ ch_tot w k * af_c w k n := Nat.mul_le_mul s (Nat.le_refl _)
    rw [Nat.mul_comm (ch_tot w k), a] at m
    rw [← Int.natCast_mul]
    omega
  refine ⟨ba_S_nonneg (fun k hk => Int.mul_nonneg (by omega) (B k hk).1), ?_, B⟩
  unfold af_T
  rw [← ch_sum ok hi, ← ba_S_mul]
  apply ba_S_le
  intro k hk
  rw [Int.mul_comm (184528125 : Int)]
  exact Int.mul_le_mul_of_nonneg_left (B k hk).2 (by omega)
section
variable {n : Nat} {w : Nat → Nat} {a su : Nat → Int32} {sy ov un : Nat → Int64} {fa fb : Int64} {up dn : Nat → Int64} {op : Nat → Int32} {tp bt nt nb : Nat → Int64}
theorem xm_afterOne {post : Int64 → Prop} (c : cr_X n w a su) {i j : Nat} (hi : i < n) (hj : j < n) {x y : Int64} (f : fp_is x y (ch_sw w i j : Int) (ch_tot w i : Int)) {part : Int32} (h0 : part = 0 → post x) (h1 : ¬ part = 0 → post y) : wpX_afterOne post (nI n, a, su, sy, ov, un) (nI i) (nI j) part := by
  have h5 := c.1.2.1
  have sl := ch_sw_le c.1 (i := i) (j := j) (by omega) (by omega)
  have tl := ch_tot_le c.1 (i := i) (by omega)
  have t1 := ch_tot_pos w i
  unfold wpX_afterOne
  dsimp only
  refine xm_sw c (by omega) (by omega) (xm_tot c (by omega) ?_)
  rw [cv_pos (by omega), cv_pos (by omega)]
  exact xm_part (by omega) (by omega) (by omega) (by omega) f h0 h1
theorem xm_afterTwo {post : Int64 → Prop} (c : cr_X n w a su) {i j : Nat} (hi : i < n) (hj : j < n) {x y : Int64} (f : fp_is x y (af_T w i j n) ((ch_tot w i : Int) * (af_p w n : Int))) {part : Int32} (h0 : part = 0 → post x) (h1 : ¬ part = 0 → post y) : wpX_afterTwo post (nI n, a, su, sy, ov, un) (nI i) (nI j) part := by
  have h5 := c.1.2.1
  have tl := ch_tot_le c.1 (i := i) (by omega)
  have t1 := ch_tot_pos w i
  have pn := af_n c.1
  have p1 := af_pos w n
  have Tb := af_Tb c.1 hi hj
  unfold wpX_afterTwo
  dsimp only
  refine xm_tot c (by omega) ?_
  rw [cv_pos (by omega)]
  refine loop_0 (fun f m (s : Int64 × Int64) => wX_afterTwo_17 post (nI i) (nI j) part (Int64.ofInt (ch_tot w i : Int)) (nI n) a su sy ov un f s.1 s.2 (nI m)) (fun m s => s.1 = Int64.ofInt (af_T w i j m) ∧ s.2 = Int64.ofInt (af_p w m : Int)) n (0, 1) ⟨rfl, rfl⟩ ?_ ?_
  · rintro g ⟨s1, s2⟩ ⟨e1, e2⟩
    dsimp only at e1 e2
    subst e1 e2
    refine br_t (nI_le (Nat.le_refl n) (by omega)) ?_
    dsimp only
    rw [← Int64.ofInt_mul]
    have q : (ch_tot w i : Int) * (af_p w n : Int) ≤ 45 * 184528125 := Int.mul_le_mul (by omega) (by omega) (by omega) (by omega)
    exact xm_part Tb.1 (Int.mul_pos (by omega) (by omega)) (by omega) (by omega) f h0 h1
  · rintro g m ⟨s1, s2⟩ hm ⟨e1, e2⟩ ih
    dsimp only at e1 e2
    subst e1 e2
    have tm := ch_tot_le c.1 (i := m) (by omega)
    have s1 := ch_sw_le c.1 (i := i) (j := m) (by omega) (by omega)
    have s2 := ch_sw_le c.1 (i := m) (j := j) (by omega) (by omega)
    have ms : ch_sw w i m * ch_sw w m j ≤ 9 * 9 := Nat.mul_le_mul s1 s2
    refine br_f (nI_ge hm (by omega)) (xm_tot c (by omega) (xm_sw c (by omega) (by omega) (xm_sw c (by omega) (by omega) ?_)))
    dsimp only
    rw [cv_pos (by omega), pk_mul, cv_pos (by omega), ← Int64.ofInt_mul, ← Int64.ofInt_mul, ← Int64.ofInt_mul, ← Int64.ofInt_add]
    refine nm_e (nm_e (nm_r (nI_1 m) (ih (_, _) ⟨?_, ?_⟩)))
    · dsimp only
      rw [af_Ts]
      rfl
    · show Int64.ofInt ((af_p w m : Int) * (ch_tot w m : Int)) = Int64.ofInt ((af_p w m * ch_tot w m : Nat) : Int)
      rw [Int.natCast_mul]
theorem ym_astep {post : Int64 → SY → Prop} (c : cr_Y n w a) {P : Nat → Int} {Q : Int} (hQ : 0 < Q) (bQ : Q ≤ 1000000000) (bP : ∀ k, k < n → (P k).natAbs ≤ 1000000000) (h : ∀ k, k < n → fp_is (tp k) (bt k) (P k) Q) {x : Nat} {x1 x3 x4 : Int32}
    {J : Int32 → Int32 → Int64 → Int64 → (Nat → Int32) → (Nat → Int64) → (Nat → Int64) → (Nat → Int32) → (Nat → Int64) → (Nat → Int64) → (Nat → Int64) → (Nat → Int64) → Prop}
    (hJ : ∀ fa' fb' tp' bt' nt' nb', (∀ s, s < n → fp_is (tp' s) (bt' s) (ba_S (fun k => (ch_sw w s k : Int) * P k) n) ((ch_tot w s : Int) * Q)) → J (nI (x + 1)) (nI n) fa' fb' a up dn op tp' bt' nt' nb') :
    ∃ f, wY_after_85 post J x1 x3 x4 (nI x) f 0 (nI n) fa fb a up dn op tp bt nt nb := by
  have h5 := c.1.2.1
  refine loop_0 (fun f s (q : Int64 × Int64 × (Nat → Int64) × (Nat → Int64)) => wY_after_85 post J x1 x3 x4 (nI x) f (nI s) (nI n) q.1 q.2.1 a up dn op tp bt q.2.2.1 q.2.2.2)
    (fun s q => ∀ r, r < s → fp_is (q.2.2.1 r) (q.2.2.2 r) (ba_S (fun k => (ch_sw w r k : Int) * P k) n) ((ch_tot w r : Int) * Q)) n (fa, fb, nt, nb) ?_ ?_ ?_
  · intro r hr; omega
  · rintro f ⟨fa, fb, nt, nb⟩ g
    dsimp only at g
    refine br_t (nI_le (Nat.le_refl n) (by omega)) ?_
    dsimp only
    refine loop_0 (fun f s (q : (Nat → Int64) × (Nat → Int64)) => wY_after_131 post J x1 x3 x4 (nI x) (nI n) fa fb f (nI s) a up dn op q.1 q.2 nt nb)
      (fun s q => ∀ r, r < s → fp_is (q.1 r) (q.2 r) (ba_S (fun k => (ch_sw w r k : Int) * P k) n) ((ch_tot w r : Int) * Q)) n (tp, bt) ?_ ?_ ?_
    · intro r hr; omega
    · rintro f ⟨tp, bt⟩ g2
      exact br_t (nI_le (Nat.le_refl n) (by omega)) (nm_r (nI_1 x) (hJ fa fb tp bt nt nb g2))
    · rintro f s ⟨tp, bt⟩ hs g2 ih
      dsimp only at g2
      have es : (nI s).toNatClampNeg = s := nI_clamp (by omega)
      have vs : vp_in (nI s) 5 := vp_in_nI (by omega) (by decide)
      refine br_f (nI_ge hs (by omega)) ⟨vs, vs, nm_e ⟨vs, vs, nm_e (nm_r (nI_1 s) (ih (vp_updL tp (nI s).toNatClampNeg (nt (nI s).toNatClampNeg), vp_updL bt (nI s).toNatClampNeg (nb (nI s).toNatClampNeg)) ?_))⟩⟩
      intro r hr
      dsimp only
      rw [es]
      by_cases e : r = s
      · rw [e, pk_uLs, pk_uLs]; exact g s hs
      · rw [pk_uLn e, pk_uLn e]; exact g2 r (by omega)
  · rintro f s ⟨fa, fb, nt, nb⟩ hs g ih
    dsimp only at g
    have es : (nI s).toNatClampNeg = s := nI_clamp (by omega)
    have vs : vp_in (nI s) 5 := vp_in_nI (by omega) (by decide)
    refine br_f (nI_ge hs (by omega)) ?_
    dsimp only
    refine ym_mean c hs hQ bQ bP (fun k hk _ => h k hk) (fun x y fx => ?_)
    dsimp only
    rw [es]
    refine ⟨vs, nm_e ⟨vs, nm_e (nm_r (nI_1 s) (ih (x, y, vp_updL nt s x, vp_updL nb s y) ?_))⟩⟩
    intro r hr
    dsimp only
    by_cases e : r = s
    · rw [e, pk_uLs, pk_uLs]; exact fx
    · rw [pk_uLn e, pk_uLn e]; exact g r (by omega)
theorem ym_after0 {post : Int64 → SY → Prop} {st : Int32} {x1 x3 x4 : Int32} {j : Nat} (hj : j < 5)
    (hp : ∀ tp' bt', (∀ s, s < 5 → tp' s = Int64.ofInt (if s = j then 1 else 0) ∧ bt' s = Int64.ofInt 1) → ∃ f, wY_after_76 post x1 x3 x4 f 0 st fa fb a up dn op tp' bt' nt nb) : ∃ f, wY_after_35 post x1 (nI j) x3 x4 st fa fb f 0 a up dn op tp bt nt nb := by
  refine loop_0 (fun f s (q : (Nat → Int64) × (Nat → Int64)) => wY_after_35 post x1 (nI j) x3 x4 st fa fb f (nI s) a up dn op q.1 q.2 nt nb)
    (fun s q => ∀ r, r < s → q.1 r = Int64.ofInt (if r = j then 1 else 0) ∧ q.2 r = Int64.ofInt 1) 5 (tp, bt) ?_ ?_ ?_
  · intro r hr; omega
  · rintro f ⟨tp, bt⟩ g
    exact br_t (by decide) (hp tp bt g)
  · rintro f s ⟨tp, bt⟩ hs g ih
    dsimp only at g
    have es : (nI s).toNatClampNeg = s := nI_clamp (by omega)
    have vs : vp_in (nI s) 5 := vp_in_nI hs (by decide)
    have s58 : ∀ z0 : Int64, z0 = Int64.ofInt (if s = j then 1 else 0) → wY_after_58 post (wY_after_35 post x1 (nI j) x3 x4 st fa fb f) x1 (nI j) x3 x4 (nI s) z0 (nI s) st fa fb a up dn op tp bt nt nb := by
      intro z0 hz
      refine ⟨vs, nm_e ⟨vs, nm_e (nm_r (nI_1 s) (ih (vp_updL tp (nI s).toNatClampNeg z0, vp_updL bt (nI s).toNatClampNeg 1) ?_))⟩⟩
      intro r hr
      dsimp only
      rw [es]
      by_cases e : r = s
      · rw [e, pk_uLs, pk_uLs]; exact ⟨hz, rfl⟩
      · rw [pk_uLn e, pk_uLn e]; exact g r (by omega)
    refine br_f (nI_ge (b := 5) hs (by decide)) ?_
    by_cases e : s = j
    · exact br_t (by rw [e]) (s58 1 (by rw [if_pos e]; rfl))
    · exact br_f (fun q => e ((nI_eq (by omega) (by omega)).mp q)) (s58 0 (by rw [if_neg e]; rfl))
end
theorem i_vc_after {k : Nat} {u : SX} {v : SY} (I : i_Rel k u v) (hk : k + 5 ≤ 2561) (v1 : Int32) (v2 : Int32) (v3 : Int32) (v4 : Int32) : wpX_after (fun r => wpY_after (fun r' v' => r' = r ∧ i_Rel (k + 5) u v') v v1 v2 v3 v4) u v1 v2 v3 v4 := by
  have J := i_up I
  obtain ⟨n, w, a, su, sy, ov, un, fa, fb, up, dn, op, tp, bt, nt, nb, rfl, rfl, c⟩ := I
  have h5 := c.1.2.1
  unfold wpX_after
  dsimp only
  rcases rf_pair (n := n) (a := a) (su := su) (sy := sy) (ov := ov) (un := un) (fa := fa) (fb := fb) (up := up) (dn := dn) (op := op) (tp := tp) (bt := bt) (nt := nt) (nb := nb) h5 v1 v2 v4 with ⟨i, j, hi, hj, rfl, rfl, hpart⟩ | ⟨z, z0, z1, hX, hY⟩
  · refine rf_x (g := 0) h5 hi hj (Nat.two_pow_pos n) hpart (br_t rfl ?_)
    by_cases n3 : v3 < 0
    · refine br_t n3 ?_
      unfold wpY_after
      dsimp only
      exact rf_yp h5 hi hj hpart (br_t (by decide) (br_t n3 ⟨rfl, J⟩))
    · by_cases l2 : v3 ≤ 2
      · obtain ⟨b, hb, rfl⟩ := nI_of2 (M := 2) (n := 2) (by decide) n3 l2
        have tl := ch_tot_le c.1 (i := i) (by omega)
        have t1 := ch_tot_pos w i
        have sl := ch_sw_le c.1 (i := i) (j := j) (by omega) (by omega)
        -- what the reference tells, for any fraction that the tops and bottoms hold in the end
        have walk : ∀ {x y : Int64} (post : Int64 → SY → Prop), (∀ tp' bt', (∀ s, s < 5 → tp' s = Int64.ofInt (if s = j then 1 else 0) ∧ bt' s = Int64.ofInt 1) → ∃ f, wY_after_76 post (nI i) (nI b) v4 f 0 (nI n) fa fb a up dn op tp' bt' nt nb) → wpY_after post (nI n, fa, fb, a, up, dn, op, tp, bt, nt, nb) (nI i) (nI j) (nI b) v4 := by
          intro x y post h
          unfold wpY_after
          dsimp only
          exact rf_yp h5 hi hj hpart (br_t (by decide) (br_f n3 (br_t l2 (ym_after0 (by omega) h))))
        have tell : ∀ {x y : Int64} {r : Int64} {tp' bt' nt' nb' : Nat → Int64} {fa' fb' : Int64} {f : Nat}, tp' i = x → bt' i = y → (v4 = 0 → x = r) → (¬ v4 = 0 → y = r) → wY_after_76 (fun r' v' => r' = r ∧ i_Rel (k + 5) (nI n, a, su, sy, ov, un) v') (nI i) (nI b) v4 (f + 1) (nI b) (nI n) fa' fb' a up dn op tp' bt' nt' nb' := by
          intro x y r tp' bt' nt' nb' fa' fb' f e1 e2 h0 h1
          refine br_t (nI_le (Nat.le_refl b) (by omega)) (ym_told (by omega) (fun q => ?_) (fun q => ?_))
          · exact ⟨by rw [e1, h0 q], ir_mk (k + 5) c _ _ _ _ _ _ _ _ _ _ _ _⟩
          · exact ⟨by rw [e2, h1 q], ir_mk (k + 5) c _ _ _ _ _ _ _ _ _ _ _ _⟩
        refine br_f n3 (br_t l2 ?_)
        rcases (by omega : b = 0 ∨ b = 1 ∨ b = 2) with rfl | rfl | rfl
        · refine br_t rfl ?_
          have fin : ∀ t : Int, (t = if i = j then 1 else 0) → wX_after_47 (fun r => wpY_after (fun r' v' => r' = r ∧ i_Rel (k + 5) (nI n, a, su, sy, ov, un) v') (nI n, fa, fb, a, up, dn, op, tp, bt, nt, nb) (nI i) (nI j) (nI 0) v4) v4 (Int64.ofInt t) (nI n) a su sy ov un := by
            intro t ht
            have tb : t = 0 ∨ t = 1 := by rw [ht]; split <;> omega
            have f := fp_int (t := t) (by omega)
            refine xm_part (q := 1) (by omega) (by decide) (by omega) (by decide) f (fun q => ?_) (fun q => ?_)
            · refine walk (x := 0) (y := 0) _ (fun tp' bt' g => ⟨1, tell (g i (by omega)).1 (g i (by omega)).2 (fun _ => by rw [ht]) (fun z => absurd q z)⟩)
            · refine walk (x := 0) (y := 0) _ (fun tp' bt' g => ⟨1, tell (g i (by omega)).1 (g i (by omega)).2 (fun z => absurd z q) (fun _ => rfl)⟩)
          by_cases e : i = j
          · exact br_t (by rw [e]) (fin 1 (by rw [if_pos e]))
          · exact br_f (fun q => e ((nI_eq (by omega) (by omega)).mp q)) (fin 0 (by rw [if_neg e]))
        · refine br_f (by decide) (br_t rfl ?_)
          obtain ⟨x, y, f⟩ := fp_can (p := (ch_sw w i j : Int)) (q := (ch_tot w i : Int)) (by omega) (by omega) (by omega)
          have step : ∀ {r : Int64} {tp' bt' : Nat → Int64}, (v4 = 0 → x = r) → (¬ v4 = 0 → y = r) → (∀ s, s < 5 → tp' s = Int64.ofInt (if s = j then 1 else 0) ∧ bt' s = Int64.ofInt 1) → ∃ f, wY_after_76 (fun r' v' => r' = r ∧ i_Rel (k + 5) (nI n, a, su, sy, ov, un) v') (nI i) (nI 1) v4 f 0 (nI n) fa fb a up dn op tp' bt' nt nb := by
            intro r tp' bt' h0 h1 g
            refine ⟨2, br_f (by decide) ?_⟩
            refine ym_astep (x := 0) (cr_XY c) (P := fun s => if s = j then 1 else 0) (Q := 1) (by decide) (by decide) (fun s _ => by split <;> decide) (fun s hs => ?_) (fun fa' fb' tp2 bt2 nt2 nb2 g2 => ?_)
            · rw [(g s (by omega)).1, (g s (by omega)).2]
              exact fp_int (by split <;> decide)
            · have e : ba_S (fun s => (ch_sw w i s : Int) * (if s = j then 1 else 0)) n = (ch_sw w i j : Int) := by
                rw [ba_S_one hj (fun s _ hs => by simp [hs])]; simp
              have q := g2 i hi
              rw [e, Int.mul_one] at q
              have eq := (fp_uniq (by omega) (by omega) q f).mpr rfl
              exact tell eq.1 eq.2 h0 h1
          refine xm_afterOne c hi hj f (fun q => ?_) (fun q => ?_)
          · exact walk (x := x) (y := y) _ (fun tp' bt' g => step (fun _ => rfl) (fun z => absurd q z) g)
          · exact walk (x := x) (y := y) _ (fun tp' bt' g => step (fun z => absurd z q) (fun _ => rfl) g)
        · refine br_f (by decide) (br_f (by decide) ?_)
          have pn := af_n c.1
          have p1 := af_pos w n
          have Tb := af_Tb c.1 hi hj
          have V0 : 0 < (ch_tot w i : Int) * (af_p w n : Int) := Int.mul_pos (by omega) (by omega)
          have q : (ch_tot w i : Int) * (af_p w n : Int) ≤ 45 * 184528125 := Int.mul_le_mul (by omega) (by omega) (by omega) (by omega)
          obtain ⟨x, y, f⟩ := fp_can (p := af_T w i j n) V0 (by omega) (by omega)
          have step : ∀ {r : Int64} {tp' bt' : Nat → Int64}, (v4 = 0 → x = r) → (¬ v4 = 0 → y = r) → (∀ s, s < 5 → tp' s = Int64.ofInt (if s = j then 1 else 0) ∧ bt' s = Int64.ofInt 1) → ∃ f, wY_after_76 (fun r' v' => r' = r ∧ i_Rel (k + 5) (nI n, a, su, sy, ov, un) v') (nI i) (nI 2) v4 f 0 (nI n) fa fb a up dn op tp' bt' nt nb := by
            intro r tp' bt' h0 h1 g
            refine ⟨3, br_f (by decide) ?_⟩
            refine ym_astep (x := 0) (cr_XY c) (P := fun s => if s = j then 1 else 0) (Q := 1) (by decide) (by decide) (fun s _ => by split <;> decide) (fun s hs => ?_) (fun fa' fb' tp2 bt2 nt2 nb2 g2 => ?_)
            · rw [(g s (by omega)).1, (g s (by omega)).2]
              exact fp_int (by split <;> decide)
            · refine br_f (by decide) ?_
              refine ym_astep (x := 1) (cr_XY c) (P := fun s => (ch_sw w s j : Int) * (af_c w s n : Int)) (Q := (af_p w n : Int)) (by omega) (by omega) (fun s hs => by have := Tb.2.2 s hs; omega) (fun s hs => ?_) (fun fa3 fb3 tp3 bt3 nt3 nb3 g3 => ?_)
              · have e : ba_S (fun k => (ch_sw w s k : Int) * (if k = j then 1 else 0)) n = (ch_sw w s j : Int) := by
                  rw [ba_S_one hj (fun s _ hs => by simp [hs])]; simp
                have q := g2 s hs
                rw [e, Int.mul_one] at q
                have ts := ch_tot_pos w s
                refine fp_eq (by omega) (by omega) ?_ q
                have a1 := af_cp w s n hs
                rw [← a1, Int.natCast_mul]; grind
              · have q := g3 i hi
                have eq := (fp_uniq V0 V0 q f).mpr rfl
                exact tell eq.1 eq.2 h0 h1
          refine xm_afterTwo c hi hj f (fun q => ?_) (fun q => ?_)
          · exact walk (x := x) (y := y) _ (fun tp' bt' g => step (fun _ => rfl) (fun z => absurd q z) g)
          · exact walk (x := x) (y := y) _ (fun tp' bt' g => step (fun z => absurd z q) (fun _ => rfl) g)
      · refine br_f n3 (br_f l2 ?_)
        unfold wpY_after
        dsimp only
        exact rf_yp h5 hi hj hpart (br_t (by decide) (br_f n3 (br_f l2 ⟨rfl, J⟩)))
  · refine hX _ (br_f z0 ?_)
    unfold wpY_after
    dsimp only
    exact hY _ (br_f z1 ⟨rfl, J⟩)
