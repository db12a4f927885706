/-! one stage of elimination without fractions: what stands in the table of the component -/
def xe_rhs (w : Nat → Nat) (U : Nat → Bool) (b r0 : Nat → Int) (k t : Nat) : Int := r0 t - ba_S (fun m => if U m = true then 0 else b m * ch_N w t m) k
def xe_vec (w : Nat → Nat) (U : Nat → Bool) (b r0 : Nat → Int) (k c t : Nat) : Int :=
  if c = 5 then xe_rhs w U b r0 k t else if c < k ∧ U c = false then 0 else ch_N w t c
def xe_id (b : Nat → Int) (s c : Nat) : Int := if c = 5 then b s else if c = s then 1 else 0
def xe_val (w : Nat → Nat) (U : Nat → Bool) (b r0 : Nat → Int) (k s c : Nat) : Int :=
  if U s = true then ba_F (ch_N w) (ba_ops U k) s (xe_vec w U b r0 k c) else ba_D (ch_N w) (ba_ops U k) * xe_id b s c
theorem xe_piv {n : Nat} {w : Nat → Nat} (ok : ch_ok n w) {U : Nat → Bool} {z : Nat} (hz : z < n) (uz : U z = false) (b r0 : Nat → Int) {k : Nat} (hk : k < n) :
    xe_val w U b r0 k k k = ba_D (ch_N w) (ba_ops U (k + 1)) := by
  have h5 := ok.2.1
  unfold xe_val
  by_cases uk : U k = true
  · rw [if_pos uk]
    have ni : k ∉ ba_ops U k := fun q => by have := (ba_ops_mem.mp q).1; omega
    rw [ba_ops_succ uk, ba_stepD _ _ _ (ba_ops_len3 h5 hz uz hk uk) ni]
    have e : xe_vec w U b r0 k k = fun t => ch_N w t k := by
      funext t
      unfold xe_vec
      rw [if_neg (by omega), if_neg (by omega)]
    rw [e]
  · rw [if_neg uk]
    have e : ba_ops U (k + 1) = ba_ops U k := by exact ba_ops_n uk
    rw [e]
    unfold xe_id
    rw [if_neg (by omega), if_pos rfl, Int.mul_one]
theorem xe_same {n : Nat} {w : Nat → Nat} (ok : ch_ok n w) {U : Nat → Bool} {z : Nat} (hz : z < n) (uz : U z = false) (b r0 : Nat → Int) {k : Nat} (hk : k < n) (c : Nat) :
    xe_val w U b r0 (k + 1) k c = xe_val w U b r0 k k c := by
  have h5 := ok.2.1
  unfold xe_val
  by_cases uk : U k = true
  · rw [if_pos uk, if_pos uk]
    have ni : k ∉ ba_ops U k := fun q => by have := (ba_ops_mem.mp q).1; omega
    rw [ba_ops_succ uk, ba_stepP _ _ _ _ (ba_ops_len3 h5 hz uz hk uk) ni]
    congr 1
    funext t
    unfold xe_vec xe_rhs
    simp only [ba_S, uk, if_true, Int.add_zero]
    by_cases q : c = k
    · simp [q, uk]
    · have : (c < k + 1 ∧ U c = false) = (c < k ∧ U c = false) := by
        apply propext
        constructor
        · rintro ⟨a, b⟩; exact ⟨by omega, b⟩
        · rintro ⟨a, b⟩; exact ⟨by omega, b⟩
      simp only [this]
  · rw [if_neg uk, if_neg uk]
    have e : ba_ops U (k + 1) = ba_ops U k := by exact ba_ops_n uk
    rw [e]
theorem xe_step {n : Nat} {w : Nat → Nat} (ok : ch_ok n w) {U : Nat → Bool} (h : sv_ok n w U) {z : Nat} (hz : z < n) (uz : U z = false) (b r0 : Nat → Int) {k s : Nat} (hk : k < n) (hs : s < n) (ne : s ≠ k) {c : Nat} (hc : c < n ∨ c = 5) :
    xe_val w U b r0 k k k * xe_val w U b r0 k s c - xe_val w U b r0 k s k * xe_val w U b r0 k k c = ba_D (ch_N w) (ba_ops U k) * xe_val w U b r0 (k + 1) s c := by
  have h5 := ok.2.1
  rw [xe_piv ok hz uz b r0 hk]
  have vk : xe_vec w U b r0 k k = fun t => ch_N w t k := by
    funext t
    unfold xe_vec
    rw [if_neg (by omega), if_neg (by omega)]
  by_cases uk : U k = true
  · have l3 := ba_ops_len3 h5 hz uz hk uk
    have ni : k ∉ ba_ops U k := fun q => by have := (ba_ops_mem.mp q).1; omega
    have vc : xe_vec w U b r0 (k + 1) c = xe_vec w U b r0 k c := by
      funext t
      unfold xe_vec xe_rhs
      simp only [ba_S, uk, if_true, Int.add_zero]
      by_cases q : c = k
      · simp [q, uk]
      · have : (c < k + 1 ∧ U c = false) = (c < k ∧ U c = false) := by
          apply propext
          constructor
          · rintro ⟨a, b⟩; exact ⟨by omega, b⟩
          · rintro ⟨a, b⟩; exact ⟨by omega, b⟩
        simp only [this]
    by_cases us : U s = true
    · unfold xe_val
      simp only [us, uk, if_true]
      rw [vc, vk]
      have st := ba_step (ch_N w) (ba_ops U k) k s (xe_vec w U b r0 k c) l3 (ba_ops_nodup U k) ni ne (by
        intro l4
        rcases Nat.lt_or_ge s k with q | q
        · exact ba_ops_mem.mpr ⟨q, us⟩
        · exfalso
          have zs : z ≠ s := fun q => by rw [q, us] at uz; cases uz
          have zk : z ≠ k := fun q => by rw [q, uk] at uz; cases uz
          have l1 := ba_ops_len U k
          rcases Nat.lt_or_ge z k with w | w
          · have := ba_ops_lenz uz k w; omega
          · omega)
      rw [ba_ops_succ uk, st, ba_stepD _ _ _ l3 ni]
    · unfold xe_val
      simp only [us, uk, if_true, if_false]
      have : xe_id b s k = 0 := by unfold xe_id; rw [if_neg (by omega), if_neg (Ne.symm ne)]
      rw [this]
      grind
  · have e : ba_ops U (k + 1) = ba_ops U k := by exact ba_ops_n uk
    have uk' : U k = false := by simpa using uk
    by_cases us : U s = true
    · obtain ⟨g, T⟩ := h
      have lin := (T k (by omega)).2.1 s hs us
      unfold xe_val
      simp only [us, uk, if_true, if_false]
      rw [e, vk]
      have key : ba_F (ch_N w) (ba_ops U k) s (xe_vec w U b r0 (k + 1) c) = ba_F (ch_N w) (ba_ops U k) s (xe_vec w U b r0 k c) + (-(xe_id b k c)) * ba_F (ch_N w) (ba_ops U k) s (fun t => ch_N w t k) := by
        rw [← lin]
        congr 1
        funext t
        unfold xe_vec xe_id xe_rhs
        by_cases c5 : c = 5
        · simp only [c5, if_true, ba_S, uk, if_false]
          grind
        · simp only [c5, if_false]
          by_cases q : c = k
          · simp only [q, uk', and_true, Nat.lt_irrefl, Nat.lt_succ_self, if_true, if_false]
            grind
          · have : (c < k + 1 ∧ U c = false) = (c < k ∧ U c = false) := by
              apply propext
              constructor
              · rintro ⟨a, b⟩; exact ⟨by omega, b⟩
              · rintro ⟨a, b⟩; exact ⟨by omega, b⟩
            simp only [this, q, if_false]
            grind
      rw [key]
      grind
    · unfold xe_val
      simp only [us, uk, if_false]
      have : xe_id b s k = 0 := by unfold xe_id; rw [if_neg (by omega), if_neg (Ne.symm ne)]
      rw [this, e]
      grind
theorem xe_b {n : Nat} {w : Nat → Nat} (ok : ch_ok n w) {U : Nat → Bool} (h : sv_ok n w U) {z : Nat} (hz : z < n) (uz : U z = false) {b r0 : Nat → Int} (hb : ∀ s, s < n → (b s).natAbs ≤ 1)
    (hr : ∀ k t, k ≤ n → t < n → U t = true → (xe_rhs w U b r0 k t).natAbs ≤ 45) {k s c : Nat} (hk : k ≤ n) (hs : s < n) (hc : c < n ∨ c = 5) : (xe_val w U b r0 k s c).natAbs ≤ 98415000 := by
  unfold xe_val
  by_cases us : U s = true
  · rw [if_pos us]
    refine ba_Fb hk hs us (fun a ha _ b hb _ => ch_N_b ok ha hb) ?_
    intro a ha ua
    unfold xe_vec
    by_cases c5 : c = 5
    · rw [if_pos c5]; exact hr k a hk ha ua
    · rw [if_neg c5]
      split
      · decide
      · exact ch_N_b ok ha (by omega)
  · rw [if_neg us]
    have d := sv_DT ok h hz uz hk
    have l : (ba_ops U k).length ≤ 4 := by
      have h5 := ok.2.1
      rcases Nat.lt_or_ge z k with q | q
      · have := ba_ops_lenz uz k q; omega
      · have := ba_ops_len U k; omega
    have p4 := ye_pow (a := (ba_ops U k).length) (b := 4) l
    have p4' : (45 : Int) ^ 4 = 4100625 := by decide
    have i1 : (xe_id b s c).natAbs ≤ 1 := by
      unfold xe_id
      split
      · exact hb s hs
      · split <;> decide
    have d1 : (ba_D (ch_N w) (ba_ops U k)).natAbs ≤ 4100625 := by omega
    have := ba_nm d1 i1
    omega
