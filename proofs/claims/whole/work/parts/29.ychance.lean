/-! chances, times and means of the reference -/
theorem nb_0 : vp_nar .boolean 0 = 0 := rfl
theorem nb_1 : vp_nar .boolean 1 = 1 := rfl
section
variable {n : Nat} {w : Nat → Nat} {a : Nat → Int32} {fa fb : Int64} {up dn : Nat → Int64} {op : Nat → Int32} {tp bt nt nb : Nat → Int64}
theorem ym_chances {post : SY → Prop} (c : cr_Y n w a) {g b m : Nat} {B : Nat → Prop} (hg : g < 2 ^ n) (hb : bm_is n b B)
    (hm : bm_is n m (fun i => gr_L n (fun x y => 0 < ch_sw w x y) (fun y => g.testBit y = true) B (n - 1) i ∧ ¬ g.testBit i = true))
    (hp : sv_rank n w (fun s => m.testBit s) → ∀ fa' fb' up' dn' op' tp' bt', (∀ s, s < n → fp_is (tp' s) (bt' s) (sv_H n w (fun s => m.testBit s) (fun s => g.testBit s) s) (sv_D n w (fun s => m.testBit s))) → post (nI n, fa', fb', a, up', dn', op', tp', bt', nt, nb)) :
    wpY_chances post (nI n, fa, fb, a, up, dn, op, tp, bt, nt, nb) (nI g) (nI b) := by
  have h5 := c.1.2.1
  have hgm : bm_is n g (fun y => g.testBit y = true) := ⟨hg, fun _ _ => Iff.rfl⟩
  have r : sv_rank n w (fun s => m.testBit s) := gr_rank_of c.1 (G := fun y => g.testBit y) (B := B) (fun s hs => hm.2 s hs)
  have Db := sv_Db c.1 r
  have dis : ∀ s, s < n → m.testBit s = true → g.testBit s = false := fun s hs t => by
    have := ((hm.2 s hs).mp t).2
    simpa using this
  have nB : ∀ s, s < n → m.testBit s = true → ¬ B s := by
    intro s hs t
    obtain ⟨rk, hr⟩ := gr_ranks (n := n) (E := fun x y => 0 < ch_sw w x y) (G := fun y => g.testBit y = true) (B := B)
    obtain ⟨l, ng⟩ := (hm.2 s hs).mp t
    exact (hr s hs ng l).2.2.1
  refine loop_0 (fun f i (s : (Nat → Int32) × (Nat → Int64) × (Nat → Int64)) => wY_chances_2 post (nI g) (nI b) (nI n) fa fb f (nI i) a up dn s.1 s.2.1 s.2.2 nt nb)
    (fun i s => (∀ x, x < i → (s.1 x = 0 ↔ m.testBit x = false)) ∧ (∀ x, x < i → s.2.1 x = Int64.ofInt (if g.testBit x = true then 1 else 0)) ∧ (∀ x, x < i → s.2.2 x = Int64.ofInt 1)) n (op, tp, bt) ?_ ?_ ?_
  · exact ⟨fun x hx => absurd hx (by omega), fun x hx => absurd hx (by omega), fun x hx => absurd hx (by omega)⟩
  · rintro f ⟨op, tp, bt⟩ ⟨k1, k2, k3⟩
    refine br_t (nI_le (Nat.le_refl n) (by omega)) ?_
    have R0 : ∀ s, s < n → m.testBit s = true → ys_R w (fun s => m.testBit s) 0 (fun x => if g.testBit x = true then 1 else 0) s n = sv_v n w (fun s => g.testBit s) s := by
      intro s hs _
      unfold ys_R sv_v
      simp only [Int.natCast_zero, Int.zero_mul, Int.zero_add]
      apply ba_S_congr
      intro x hx
      by_cases mx : m.testBit x = true
      · rw [if_pos mx]; simp [dis x hx mx]
      · rw [if_neg mx]
        by_cases gx : g.testBit x = true
        · rw [if_pos gx, if_pos gx]; omega
        · rw [if_neg gx, if_neg gx]; simp
    refine ym_solve (each := 0) (U := fun s => m.testBit s) (t := fun x => if g.testBit x = true then 1 else 0) (v := sv_v n w (fun s => g.testBit s)) c r (by omega) ?_ k1 k2 k3 R0 ?_ ?_
    · intro s _
      by_cases q : g.testBit s = true
      · exact .inr (if_pos q)
      · exact .inl (if_neg q)
    · intro s hs _
      have u1 := sv_v_nonneg n w (fun s => g.testBit s) s
      have u2 := sv_v_le c.1 (fun s => g.testBit s) hs
      have u3 := ch_tot_le c.1 (i := s) (by omega)
      omega
    · intro fa' fb' up' dn' tp' bt' k
      dsimp only
      refine hp r fa' fb' up' dn' op tp' bt' (fun s hs => ?_)
      have := k s hs
      unfold sv_H
      by_cases ms : m.testBit s = true
      · rw [if_pos ms, if_pos ms] at this
        rw [if_pos ms]; exact this
      · rw [if_neg ms, if_neg ms] at this
        rw [if_neg ms]
        refine fp_eq (by decide) Db.1 ?_ this
        by_cases gs : g.testBit s = true
        · rw [if_pos gs, if_pos gs]; omega
        · rw [if_neg gs, if_neg gs]; omega
  · rintro f i ⟨op, tp, bt⟩ hi ⟨k1, k2, k3⟩ ih
    dsimp only at k1 k2 k3
    have ei : (nI i).toNatClampNeg = i := nI_clamp (by omega)
    have vi : vp_in (nI i) 5 := vp_in_nI (by omega) (by decide)
    refine br_f (nI_ge hi (by omega)) ?_
    dsimp only
    obtain ⟨q, hq⟩ := bm_exists n (gr_R n (fun x y => 0 < ch_sw w x y) (fun y => g.testBit y = true ∨ B y) i 5)
    have hgb := bm_or2 hgm hb
    have s29 : ∀ z0 : Int64, z0 = Int64.ofInt (if g.testBit i = true then 1 else 0) → wY_chances_29 post (wY_chances_2 post (nI g) (nI b) (nI n) fa fb f) (nI g) (nI b) (nI i) z0 (nI i) (nI n) fa fb a up dn op tp bt nt nb := by
      intro z0 hz0
      refine ⟨vi, nm_e ⟨vi, nm_e ?_⟩⟩
      rw [ei, bm_or]
      refine ym_reach c hi hgb hq ?_
      have fin : ∀ o : Int32, (o = 0 ↔ m.testBit i = false) → ∀ q2, q2 = upd op i o → ∀ q3, q3 = nI i + 1 → wY_chances_2 post (nI g) (nI b) (nI n) fa fb f q3 a up dn q2 (vp_updL tp i z0) (vp_updL bt i 1) nt nb := by
        intro o ho
        refine nm_e (nm_r (nI_1 i) (ih (upd op i o, vp_updL tp i z0, vp_updL bt i 1) ⟨?_, ?_, ?_⟩))
        · intro x hx
          dsimp only
          by_cases e : x = i
          · rw [e, pk_us]; exact ho
          · rw [pk_un e]; exact k1 x (by omega)
        · intro x hx
          dsimp only
          by_cases e : x = i
          · rw [e, pk_uLs]; exact hz0
          · rw [pk_uLn e]; exact k2 x (by omega)
        · intro x hx
          dsimp only
          by_cases e : x = i
          · rw [e, pk_uLs]; rfl
          · rw [pk_uLn e]; exact k3 x (by omega)
      rw [nb_0, nb_1]
      refine ym_in (bm_lt hgm h5) (by omega) (fun tg => ?_) (fun tg => ?_)
      · refine br_f (by decide) ⟨vi, fin 0 ⟨fun _ => ?_, fun _ => rfl⟩⟩
        cases e : m.testBit i
        · rfl
        · rw [dis i hi e] at tg; cases tg
      · refine br_t rfl (ym_in (bm_lt hb h5) (by omega) (fun tb => ?_) (fun tb => ?_))
        · refine br_f (by decide) ⟨vi, fin 0 ⟨fun _ => ?_, fun _ => rfl⟩⟩
          cases e : m.testBit i
          · rfl
          · exact absurd ((hb.2 i hi).mp tb) (nB i hi e)
        · refine br_t rfl ?_
          rw [bm_and]
          have hqg := bm_and2 hq hgm
          have lt : q &&& g < 2 ^ 31 := Nat.lt_trans (bm_lt hqg h5) (by decide)
          have key : m.testBit i = true ↔ q &&& g ≠ 0 := by
            have hmi : m.testBit i = true ↔ (gr_L n (fun x y => 0 < ch_sw w x y) (fun y => g.testBit y = true) B (n - 1) i ∧ ¬ g.testBit i = true) := hm.2 i hi
            rw [hmi, gr_lead (T := fun y => g.testBit y = true ∨ B y) (fun _ z => z) (fun _ z => .inr z) hi (by omega : n ≤ 5 + 1), bm_ne0 hqg]
            constructor
            · rintro ⟨⟨y, hy, gy, ry⟩, _⟩; exact ⟨y, hy, ry, gy⟩
            · rintro ⟨y, hy, ry, gy⟩; exact ⟨⟨y, hy, gy, ry⟩, by rw [tg]; decide⟩
          by_cases z : q &&& g = 0
          · refine br_t (by rw [z]; rfl) ⟨vi, fin 0 ⟨fun _ => ?_, fun _ => rfl⟩⟩
            cases e : m.testBit i
            · rfl
            · exact absurd z (key.mp e)
          · refine br_f (fun y => z ((cw_0 lt).mp y)) ⟨vi, fin 1 ⟨fun y => absurd y (by decide), fun y => ?_⟩⟩
            rw [key.mpr z] at y; cases y
    refine ym_in (bm_lt hgm h5) (by omega) (fun tg => ?_) (fun tg => ?_)
    · exact br_f (by decide) (s29 1 (by rw [if_pos tg]; rfl))
    · exact br_t rfl (s29 0 (by rw [tg]; rfl))
theorem ym_times {post : SY → Prop} (c : cr_Y n w a) {g m : Nat} (hg : g < 2 ^ n)
    (hm : bm_is n m (fun i => gr_L n (fun x y => 0 < ch_sw w x y) (fun y => g.testBit y = true) (fun _ => False) (n - 1) i ∧ ¬ g.testBit i = true))
    (hp : sv_rank n w (fun s => m.testBit s) → ∀ fa' fb' up' dn' op' tp' bt', (∀ s, s < n → (sv_H n w (fun s => m.testBit s) (fun s => g.testBit s) s = sv_D n w (fun s => m.testBit s) → fp_is (tp' s) (bt' s) (if m.testBit s = true then sv_F n w (fun s => m.testBit s) s (fun t => (ch_tot w t : Int)) else 0) (sv_D n w (fun s => m.testBit s))) ∧ (¬ sv_H n w (fun s => m.testBit s) (fun s => g.testBit s) s = sv_D n w (fun s => m.testBit s) → tp' s = 1 ∧ bt' s = 0)) → post (nI n, fa', fb', a, up', dn', op', tp', bt', nt, nb)) :
    wpY_times post (nI n, fa, fb, a, up, dn, op, tp, bt, nt, nb) (nI g) := by
  have h5 := c.1.2.1
  have hgm : bm_is n g (fun y => g.testBit y = true) := ⟨hg, fun _ _ => Iff.rfl⟩
  have dis : ∀ s, s < n → m.testBit s = true → g.testBit s = false := fun s hs t => by
    have := ((hm.2 s hs).mp t).2
    simpa using this
  unfold wpY_times
  dsimp only
  refine ym_chances (b := 0) c hg (bm_zero n) hm (fun r fa up1 fbx dnx op1 tp1 bt1 k0 => ?_)
  have Db := sv_Db c.1 r
  have hok := sv_of c.1 r
  obtain ⟨q, hq⟩ := bm_exists n (fun s => m.testBit s = true ∧ sv_H n w (fun s => m.testBit s) (fun s => g.testBit s) s = sv_D n w (fun s => m.testBit s))
  have r2 : sv_rank n w (fun s => q.testBit s) := by
    obtain ⟨z, rk, hz, uz, hr, hs⟩ := r
    refine ⟨z, rk, hz, ?_, fun s hn us => hr s hn ((hq.2 s hn).mp us).1, fun s hn us => ?_⟩
    · show q.testBit z = false
      cases e : q.testBit z
      · rfl
      · have := ((hq.2 z hz).mp e).1
        dsimp only at uz
        rw [this] at uz; cases uz
    · obtain ⟨x, hx, p, lt⟩ := hs s hn ((hq.2 s hn).mp us).1
      exact ⟨x, hx, p, fun uc => lt ((hq.2 x hx).mp uc).1⟩
  have sure : ∀ s, s < n → (tp1 s = bt1 s ↔ sv_H n w (fun s => m.testBit s) (fun s => g.testBit s) s = sv_D n w (fun s => m.testBit s)) := by
    intro s hs
    have f := k0 s hs
    have f1 := fp_int (t := 1) (by decide)
    have u := fp_uniq Db.1 (by decide) f f1
    constructor
    · intro e
      have H0 := sv_H_nonneg (G := fun s => g.testBit s) hok hs
      have H1 := sv_H_le c.1 hok dis hs
      obtain ⟨h1, h2, h3, h4⟩ := f
      have dp := fr_den_pos (sv_H n w (fun s => m.testBit s) (fun s => g.testBit s) s) (sv_D n w (fun s => m.testBit s))
      rw [h1, h2] at e
      have e2 := (lz_eq h3 (by omega)).mp e
      obtain ⟨x, hx, e3, e4⟩ := fr_ex (sv_H n w (fun s => m.testBit s) (fun s => g.testBit s) s) Db.1
      rw [e3, e2, ← e4]
    · intro e
      have := u.mpr (by rw [e, Int.mul_one, Int.one_mul])
      rw [this.1, this.2]
  dsimp only
  refine loop_0 (fun f i (s : Int32 × (Nat → Int32)) => wY_times_10 post (nI g) (nI n) fa up1 f s.1 (nI i) a fbx dnx s.2 tp1 bt1 nt nb)
    (fun i s => (∃ wo, s.1 = nI wo ∧ bm_is n wo (fun x => x < i ∧ ¬ sv_H n w (fun s => m.testBit s) (fun s => g.testBit s) x = sv_D n w (fun s => m.testBit s))) ∧ (∀ x, x < i → (s.2 x = 0 ↔ q.testBit x = false))) n (0, op1) ?_ ?_ ?_
  · exact ⟨⟨0, rfl, bm_iff (bm_zero n) (fun j _ => ⟨fun z => z.elim, fun z => by omega⟩)⟩, fun x hx => absurd hx (by omega)⟩
  · rintro f ⟨wo', op2⟩ ⟨⟨wo, rfl, hwo⟩, k1⟩
    refine br_t (nI_le (Nat.le_refl n) (by omega)) ?_
    dsimp only
    refine loop_0 (fun f i (s : (Nat → Int64) × (Nat → Int64)) => wY_times_89 post (nI wo) (nI n) fa up1 f (nI i) a fbx dnx op2 s.1 s.2 nt nb)
      (fun i s => (∀ x, x < i → s.1 x = Int64.ofInt 0) ∧ (∀ x, x < i → s.2 x = Int64.ofInt 1)) n (tp1, bt1) ?_ ?_ ?_
    · exact ⟨fun x hx => absurd hx (by omega), fun x hx => absurd hx (by omega)⟩
    · rintro f ⟨tp2, bt2⟩ ⟨l1, l2⟩
      refine br_t (nI_le (Nat.le_refl n) (by omega)) ?_
      dsimp only at l1 l2 ⊢
      have R1 : ∀ s, s < n → q.testBit s = true → ys_R w (fun s => q.testBit s) 1 (fun _ => 0) s n = (ch_tot w s : Int) := by
        intro s _ _
        unfold ys_R
        rw [ba_S_zero (fun x _ => by simp)]
        simp
      refine ym_solve (each := 1) (U := fun s => q.testBit s) (t := fun _ => 0) (v := fun t => (ch_tot w t : Int)) c r2 (by omega) (fun _ _ => .inl rfl) k1 l1 l2 R1 ?_ ?_
      · intro s hs _
        have u3 := ch_tot_le c.1 (i := s) (by omega)
        omega
      · intro fa3 fb3 up3 dn3 tp3 bt3 k3
        dsimp only
        have Db2 := sv_Db c.1 r2
        refine loop_0 (fun f i (s : (Nat → Int64) × (Nat → Int64)) => wY_times_124 post (nI wo) (nI n) fa3 fb3 f (nI i) a up3 dn3 op2 s.1 s.2 nt nb)
          (fun i s => (∀ x, i ≤ x → s.1 x = tp3 x ∧ s.2 x = bt3 x) ∧ ∀ s', s' < i → (sv_H n w (fun s => m.testBit s) (fun s => g.testBit s) s' = sv_D n w (fun s => m.testBit s) → s.1 s' = tp3 s' ∧ s.2 s' = bt3 s') ∧ (¬ sv_H n w (fun s => m.testBit s) (fun s => g.testBit s) s' = sv_D n w (fun s => m.testBit s) → s.1 s' = 1 ∧ s.2 s' = 0)) n (tp3, bt3) ?_ ?_ ?_
        · exact ⟨fun x _ => ⟨rfl, rfl⟩, fun x hx => absurd hx (by omega)⟩
        · rintro f ⟨tp4, bt4⟩ ⟨_, o2⟩
          refine br_t (nI_le (Nat.le_refl n) (by omega)) (hp r fa3 fb3 up3 dn3 op2 tp4 bt4 (fun s hs => ⟨fun e => ?_, (o2 s hs).2⟩))
          have o := (o2 s hs).1 e
          dsimp only at o
          rw [o.1, o.2]
          have k := k3 s hs
          by_cases ms : m.testBit s = true
          · have qs : q.testBit s = true := (hq.2 s hs).mpr ⟨ms, e⟩
            rw [if_pos qs, if_pos qs] at k
            rw [if_pos ms]
            refine fp_eq Db2.1 Db.1 ?_ k
            have st := sv_time c.1 (U := fun s => m.testBit s) (G := fun s => g.testBit s) (U' := fun s => q.testBit s && decide (s < n)) r dis (fun s => by
              by_cases sn : s < n
              · simp only [sn, decide_true, Bool.and_true]; exact hq.2 s sn
              · simp only [sn, decide_false, Bool.and_false]
                constructor
                · intro z; cases z
                · rintro ⟨z, _⟩
                  rw [bm_hi hm.1 (by omega)] at z; cases z) (fun t => (ch_tot w t : Int)) hs (by simp [qs, hs])
            have same : (fun s => q.testBit s && decide (s < n)) = fun s => q.testBit s := by
              funext x
              by_cases xn : x < n
              · simp [xn]
              · simp [xn, bm_hi hq.1 (by omega : n ≤ x)]
            rw [same] at st
            grind
          · have qs : ¬ q.testBit s = true := fun z => ms ((hq.2 s hs).mp z).1
            rw [if_neg qs, if_neg qs] at k
            rw [if_neg ms]
            exact fp_eq (by decide) Db.1 (by simp) k
        · rintro f i ⟨tp4, bt4⟩ hi ⟨o1, o2⟩ ih
          dsimp only at o1 o2
          have ei : (nI i).toNatClampNeg = i := nI_clamp (by omega)
          have vi : vp_in (nI i) 5 := vp_in_nI (by omega) (by decide)
          refine br_f (nI_ge hi (by omega)) ?_
          dsimp only
          refine ym_in (bm_lt hwo h5) (by omega) (fun tw => ?_) (fun tw => ?_)
          · refine br_f (by decide) ⟨vi, nm_e ⟨vi, nm_e (nm_r (nI_1 i) (ih (vp_updL tp4 (nI i).toNatClampNeg 1, vp_updL bt4 (nI i).toNatClampNeg 0) ⟨?_, ?_⟩))⟩⟩
            · intro x hx
              dsimp only
              rw [ei, pk_uLn (by omega), pk_uLn (by omega)]; exact o1 x (by omega)
            · intro x hx
              dsimp only
              rw [ei]
              by_cases e : x = i
              · rw [e, pk_uLs, pk_uLs]
                exact ⟨fun z => absurd z ((hwo.2 i hi).mp tw).2, fun _ => ⟨rfl, rfl⟩⟩
              · rw [pk_uLn e, pk_uLn e]; exact o2 x (by omega)
          · refine br_t rfl (nm_r (nI_1 i) (ih (tp4, bt4) ⟨fun x hx => o1 x (by omega), ?_⟩))
            intro x hx
            dsimp only
            by_cases e : x = i
            · rw [e]
              refine ⟨fun _ => o1 i (Nat.le_refl i), fun z => ?_⟩
              rw [(hwo.2 i hi).mpr ⟨hi, z⟩] at tw; cases tw
            · exact o2 x (by omega)
    · rintro f i ⟨tp2, bt2⟩ hi ⟨l1, l2⟩ ih
      dsimp only at l1 l2
      have ei : (nI i).toNatClampNeg = i := nI_clamp (by omega)
      have vi : vp_in (nI i) 5 := vp_in_nI (by omega) (by decide)
      refine br_f (nI_ge hi (by omega)) ⟨vi, nm_e ⟨vi, nm_e (nm_r (nI_1 i) (ih (vp_updL tp2 (nI i).toNatClampNeg 0, vp_updL bt2 (nI i).toNatClampNeg 1) ⟨?_, ?_⟩))⟩⟩
      · intro x hx
        dsimp only
        rw [ei]
        by_cases e : x = i
        · rw [e, pk_uLs]; rfl
        · rw [pk_uLn e]; exact l1 x (by omega)
      · intro x hx
        dsimp only
        rw [ei]
        by_cases e : x = i
        · rw [e, pk_uLs]; rfl
        · rw [pk_uLn e]; exact l2 x (by omega)
  · rintro f i ⟨wo', op2⟩ hi ⟨⟨wo, rfl, hwo⟩, k1⟩ ih
    dsimp only at k1
    have ei : (nI i).toNatClampNeg = i := nI_clamp (by omega)
    have vi : vp_in (nI i) 5 := vp_in_nI (by omega) (by decide)
    refine br_f (nI_ge hi (by omega)) ⟨vi, vi, ?_⟩
    dsimp only
    rw [ei]
    have s55 : ∀ (x4 : Int32) (wz : Nat), bm_is n wz (fun x => x < i + 1 ∧ ¬ sv_H n w (fun s => m.testBit s) (fun s => g.testBit s) x = sv_D n w (fun s => m.testBit s)) → (x4 = 0 ↔ ¬ sv_H n w (fun s => m.testBit s) (fun s => g.testBit s) i = sv_D n w (fun s => m.testBit s)) → wY_times_55 post (wY_times_10 post (nI g) (nI n) fa up1 f) (nI g) (nI i) x4 (nI wz) (nI n) fa up1 a fbx dnx op2 tp1 bt1 nt nb := by
      intro x4 wz hwz hx4
      have fin : ∀ o : Int32, (o = 0 ↔ q.testBit i = false) → ∀ q2, q2 = upd op2 (nI i).toNatClampNeg o → ∀ q3, q3 = nI i + 1 → wY_times_10 post (nI g) (nI n) fa up1 f (nI wz) q3 a fbx dnx q2 tp1 bt1 nt nb := by
        intro o ho
        rw [ei]
        refine nm_e (nm_r (nI_1 i) (ih (nI wz, upd op2 i o) ⟨⟨wz, rfl, hwz⟩, ?_⟩))
        intro x hx
        dsimp only
        by_cases e : x = i
        · rw [e, pk_us]; exact ho
        · rw [pk_un e]; exact k1 x (by omega)
      unfold wY_times_55
      rw [nb_0, nb_1]
      refine ym_in (bm_lt hgm h5) (by omega) (fun tg => ?_) (fun tg => ?_)
      · refine br_f (by decide) ⟨vi, fin 0 ⟨fun _ => ?_, fun _ => rfl⟩⟩
        cases e : q.testBit i
        · rfl
        · have := dis i hi ((hq.2 i hi).mp e).1
          rw [this] at tg; cases tg
      · refine br_t rfl (br_c (fun z => ⟨vi, fin 0 ⟨fun _ => ?_, fun _ => rfl⟩⟩) (fun z => ⟨vi, fin 1 ⟨fun y => absurd y (by decide), fun y => ?_⟩⟩))
        · cases e : q.testBit i
          · rfl
          · exact absurd ((hq.2 i hi).mp e).2 (hx4.mp z)
        · exfalso
          have e : sv_H n w (fun s => m.testBit s) (fun s => g.testBit s) i = sv_D n w (fun s => m.testBit s) := Classical.byContradiction (fun no => z (hx4.mpr no))
          have mi : m.testBit i = true := by
            cases e2 : m.testBit i
            · rw [sv_H_0 (U := fun s => m.testBit s) (G := fun s => g.testBit s) e2 tg] at e
              omega
            · rfl
          rw [(hq.2 i hi).mpr ⟨mi, e⟩] at y; cases y
    by_cases e : tp1 i = bt1 i
    · have e' := (sure i hi).mp e
      refine br_t e (br_f (by decide) (s55 1 wo (bm_iff hwo (fun x hx => ⟨fun y => ⟨by omega, y.2⟩, fun y => ⟨?_, y.2⟩⟩)) ⟨fun y => absurd y (by decide), fun y => absurd e' y⟩))
      have : x ≠ i := fun z => y.2 (z ▸ e')
      omega
    · have e' := fun z => e ((sure i hi).mpr z)
      refine br_f e (br_t rfl ?_)
      rw [bm_shl i (by omega), bm_or]
      refine s55 0 _ (bm_iff (bm_or2 hwo (bm_one hi)) (fun x hx => ⟨?_, ?_⟩)) ⟨fun _ => e', fun _ => rfl⟩
      · rintro (y | y)
        · exact ⟨by omega, y.2⟩
        · rw [y]; exact ⟨by omega, e'⟩
      · rintro ⟨y, z⟩
        by_cases xi : x = i
        · exact .inr xi
        · exact .inl ⟨by omega, z⟩
end
