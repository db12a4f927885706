/-! one stage of elimination by fractions: the rows are multiples of the whole-number rows -/
theorem ba_ops_mono (U : Nat → Bool) {k m : Nat} (h : k ≤ m) : (ba_ops U k).length ≤ (ba_ops U m).length := by
  induction m with
  | zero => rw [show k = 0 by omega]; exact Nat.le_refl _
  | succ m ih =>
    rcases Nat.lt_or_ge m k with q | q
    · rw [show k = m + 1 by omega]; exact Nat.le_refl _
    · refine Nat.le_trans (ih q) ?_
      by_cases e : U m = true
      · simp only [ba_ops, e, if_true, List.length_append, List.length_singleton]; omega
      · rw [ba_ops_n e]; exact Nat.le_refl _
theorem ba_ops_succ {U : Nat → Bool} {k : Nat} (u : U k = true) : ba_ops U (k + 1) = ba_ops U k ++ [k] := by simp only [ba_ops, u, if_true]
theorem ba_ops_len3 {n : Nat} {U : Nat → Bool} (hn : n ≤ 5) {z : Nat} (hz : z < n) (uz : U z = false) {k : Nat} (hk : k < n) (uk : U k = true) : (ba_ops U k).length ≤ 3 := by
  have zk : z ≠ k := fun q => by rw [q, uk] at uz; cases uz
  have l1 := ba_ops_len U k
  rcases Nat.lt_or_ge k 4 with q | q
  · omega
  · have := ba_ops_lenz uz k (by omega); omega
theorem sv_DT {n : Nat} {w : Nat → Nat} (ok : ch_ok n w) {U : Nat → Bool} (h : sv_ok n w U) {z : Nat} (hz : z < n) (uz : U z = false) {k : Nat} (hk : k ≤ n) : 0 < ba_D (ch_N w) (ba_ops U k) ∧ ba_D (ch_N w) (ba_ops U k) ≤ 45 ^ (ba_ops U k).length := by
  obtain ⟨g, h⟩ := h
  refine ⟨(h k hk).1, ba_Dle ok.2.1 hz uz h ?_ k hk⟩
  intro a ha _
  have := ch_N_b ok ha ha
  omega
theorem ye_pow {a b : Nat} (h : a ≤ b) : (45 : Int) ^ a ≤ 45 ^ b := by
  have : 45 ^ a ≤ 45 ^ b := Nat.pow_le_pow_right (by omega) h
  have e : ∀ k : Nat, ((45 ^ k : Nat) : Int) = (45 : Int) ^ k := fun k => by simp
  rw [← e, ← e]; omega
def ye_mn (w : Nat → Nat) (U : Nat → Bool) (k s : Nat) : Int := if s < k then ba_D (ch_N w) (ba_ops U (s + 1)) else 1
def ye_md (w : Nat → Nat) (U : Nat → Bool) (k s : Nat) : Int := (ch_tot w s : Int) * if s < k then ba_D (ch_N w) (ba_ops U s) else 1
theorem ye_m {n : Nat} {w : Nat → Nat} (ok : ch_ok n w) {U : Nat → Bool} (h : sv_ok n w U) {z : Nat} (hz : z < n) (uz : U z = false) {k s : Nat} (hk : k ≤ n) (hs : s < n) (us : U s = true) (l3 : (ba_ops U k).length ≤ 3) :
    0 < ye_mn w U k s ∧ 0 < ye_md w U k s ∧ (s < k → ye_mn w U k s ≤ 91125) ∧ (k ≤ s → ye_mn w U k s = 1) ∧ ye_md w U k s ≤ 91125 := by
  have t1 := ch_tot_pos w s
  have t2 := ch_tot_le ok (i := s) (by have := ok.2.1; omega)
  unfold ye_mn ye_md
  by_cases q : s < k
  · have a := sv_DT ok h hz uz (k := s + 1) (by omega)
    have b := sv_DT ok h hz uz (k := s) (by omega)
    have l := ba_ops_mono U (k := s + 1) (m := k) (by omega)
    have e : (ba_ops U (s + 1)).length = (ba_ops U s).length + 1 := by rw [ba_ops_succ us, List.length_append]; rfl
    have p3 := ye_pow (a := (ba_ops U (s + 1)).length) (b := 3) (by omega)
    have p2 := ye_pow (a := (ba_ops U s).length) (b := 2) (by omega)
    rw [if_pos q, if_pos q]
    have p3' : (45 : Int) ^ 3 = 91125 := by decide
    have p2' : (45 : Int) ^ 2 = 2025 := by decide
    refine ⟨a.1, Int.mul_pos (by omega) b.1, fun _ => by omega, fun z => absurd q (by omega), ?_⟩
    have : (ch_tot w s : Int) * ba_D (ch_N w) (ba_ops U s) ≤ 45 * 2025 := Int.mul_le_mul (by omega) (by omega) (by omega) (by omega)
    omega
  · rw [if_neg q, if_neg q]
    exact ⟨by omega, by omega, fun z => absurd z q, fun _ => rfl, by omega⟩
theorem ye_Fb {n : Nat} {w : Nat → Nat} (ok : ch_ok n w) {U : Nat → Bool} {k s : Nat} (hk : k ≤ n) (hs : s < n) (us : U s = true) (l3 : (ba_ops U k).length ≤ 3) {v : Nat → Int} (hv : ∀ t, t < n → U t = true → (v t).natAbs ≤ 45) :
    (ba_F (ch_N w) (ba_ops U k) s v).natAbs ≤ 98415000 ∧ (s < k → (ba_F (ch_N w) (ba_ops U k) s v).natAbs ≤ 546750) := by
  have hN : ∀ a, a < n → U a = true → ∀ b, b < n → U b = true → (ch_N w a b).natAbs ≤ 45 := fun a ha _ b hb _ => ch_N_b ok ha hb
  refine ⟨ba_Fb hk hs us hN hv, fun q => ?_⟩
  have m : ∀ a, a ∈ ba_ops U k → a < n ∧ U a = true := fun a ha => ⟨by have := (ba_ops_mem.mp ha).1; omega, (ba_ops_mem.mp ha).2⟩
  refine Nat.le_trans (ba_FbIn _ v _ s (ba_ops_mem.mpr ⟨q, us⟩) (fun a ha b hb => hN a (m a ha).1 (m a ha).2 b (m b hb).1 (m b hb).2) (fun a ha => hv a (m a ha).1 (m a ha).2)) ?_
  generalize (ba_ops U k).length = l at *
  match l, l3 with
  | 0, _ => decide
  | 1, _ => decide
  | 2, _ => decide
  | 3, _ => decide
theorem ye_stage {n : Nat} {w : Nat → Nat} (ok : ch_ok n w) {U : Nat → Bool} (h : sv_ok n w U) {z : Nat} (hz : z < n) (uz : U z = false) {k s : Nat} (hk : k < n) (uk : U k = true) (hs : s < n) (us : U s = true) (ne : s ≠ k) {v : Nat → Int} (hv : ∀ t, t < n → U t = true → (v t).natAbs ≤ 45) :
    let F := ba_F (ch_N w) (ba_ops U k); let D := ba_D (ch_N w) (ba_ops U k); let D' := ba_D (ch_N w) (ba_ops U (k + 1))
    let mn := ye_mn w U k s; let md := ye_md w U k s
    0 < mn ∧ 0 < md ∧ 0 < D ∧ 0 < D' ∧ (mn * F s (fun t => ch_N w t k) * (ch_tot w k : Int)).natAbs < 9223372036854775808 ∧ md * D' < 9223372036854775808 ∧
    (mn * F s v * D').natAbs + (mn * F s (fun t => ch_N w t k) * F k v).natAbs < 9223372036854775808 ∧ md * D * D' < 9223372036854775808 ∧
    mn * F s v * D' - mn * F s (fun t => ch_N w t k) * F k v = mn * ba_F (ch_N w) (ba_ops U (k + 1)) s v * D ∧
    ye_mn w U (k + 1) s = mn ∧ ye_md w U (k + 1) s = md := by
  intro F D D' mn md
  have l3 := ba_ops_len3 ok.2.1 hz uz hk uk
  obtain ⟨m1, m2, m3, m4, m5⟩ := ye_m ok h hz uz (k := k) (by omega) hs us l3
  have d1 := sv_DT ok h hz uz (k := k) (by omega)
  have d2 := sv_DT ok h hz uz (k := k + 1) (by omega)
  have e1 : (ba_ops U (k + 1)).length = (ba_ops U k).length + 1 := by rw [ba_ops_succ uk, List.length_append]; rfl
  have p3 := ye_pow (a := (ba_ops U k).length) (b := 3) (by omega)
  have p4 := ye_pow (a := (ba_ops U (k + 1)).length) (b := 4) (by omega)
  have p3' : (45 : Int) ^ 3 = 91125 := by decide
  have p4' : (45 : Int) ^ 4 = 4100625 := by decide
  have D3 : D ≤ 91125 := by show ba_D (ch_N w) (ba_ops U k) ≤ _; omega
  have D4 : D' ≤ 4100625 := by show ba_D (ch_N w) (ba_ops U (k + 1)) ≤ _; omega
  have hc : ∀ t, t < n → U t = true → (ch_N w t k).natAbs ≤ 45 := fun t ht _ => ch_N_b ok ht hk
  have b1 := ye_Fb ok (k := k) (by omega) hs us l3 hv
  have b2 := ye_Fb ok (k := k) (by omega) hs us l3 (v := fun t => ch_N w t k) hc
  have b3 := ye_Fb ok (k := k) (by omega) hk uk l3 hv
  have t2 := ch_tot_le ok (i := k) (by have := ok.2.1; omega)
  have ni : k ∉ ba_ops U k := fun q => by have := (ba_ops_mem.mp q).1; omega
  have st : D * ba_F (ch_N w) (ba_ops U (k + 1)) s v = D' * F s v - F s (fun t => ch_N w t k) * F k v := by
    show ba_D (ch_N w) (ba_ops U k) * _ = ba_D (ch_N w) (ba_ops U (k + 1)) * _ - _
    rw [ba_ops_succ uk, ba_stepD _ _ _ l3 ni]
    refine ba_step _ _ k s v l3 (ba_ops_nodup U k) ni ne ?_
    intro l4
    rcases Nat.lt_or_ge s k with q | q
    · exact ba_ops_mem.mpr ⟨q, us⟩
    · exfalso
      have zs : z ≠ s := fun q => by rw [q, us] at uz; cases uz
      have zk : z ≠ k := fun q => by rw [q, uk] at uz; cases uz
      have l1 := ba_ops_len U k
      have h5 := ok.2.1
      rcases Nat.lt_or_ge z k with w | w
      · have := ba_ops_lenz uz k w; omega
      · omega
  have same1 : ye_mn w U (k + 1) s = mn := by
    show ye_mn w U (k + 1) s = ye_mn w U k s
    unfold ye_mn
    by_cases q : s < k
    · rw [if_pos q, if_pos (by omega)]
    · rw [if_neg q, if_neg (by omega)]
  have same2 : ye_md w U (k + 1) s = md := by
    show ye_md w U (k + 1) s = ye_md w U k s
    unfold ye_md
    by_cases q : s < k
    · rw [if_pos q, if_pos (by omega)]
    · rw [if_neg q, if_neg (by omega)]
  have mdD : md * D' ≤ 91125 * 4100625 := Int.mul_le_mul m5 D4 (Int.le_of_lt d2.1) (by omega)
  have mdDD : md * D * D' ≤ 91125 * 91125 * 4100625 := Int.mul_le_mul (Int.mul_le_mul m5 D3 (Int.le_of_lt d1.1) (by omega)) D4 (Int.le_of_lt d2.1) (by omega)
  have D'a : D'.natAbs ≤ 4100625 := by have := d2.1; show (ba_D (ch_N w) (ba_ops U (k + 1))).natAbs ≤ _; omega
  have ta : ((ch_tot w k : Nat) : Int).natAbs ≤ 45 := by omega
  refine ⟨m1, m2, d1.1, d2.1, ?_, by omega, ?_, by omega, ?_, same1, same2⟩
  · rcases Nat.lt_or_ge s k with q | q
    · have a : mn.natAbs ≤ 91125 := by have := m3 q; show (ye_mn w U k s).natAbs ≤ _; omega
      exact Nat.lt_of_le_of_lt (ba_nm (ba_nm a (b2.2 q)) ta) (by decide)
    · have a : mn.natAbs ≤ 1 := by have := m4 q; show (ye_mn w U k s).natAbs ≤ _; omega
      exact Nat.lt_of_le_of_lt (ba_nm (ba_nm a b2.1) ta) (by decide)
  · rcases Nat.lt_or_ge s k with q | q
    · have a : mn.natAbs ≤ 91125 := by have := m3 q; show (ye_mn w U k s).natAbs ≤ _; omega
      have x1 := ba_nm (ba_nm a (b1.2 q)) D'a
      have x2 := ba_nm (ba_nm a (b2.2 q)) b3.1
      exact Nat.lt_of_le_of_lt (Nat.add_le_add x1 x2) (by decide)
    · have a : mn.natAbs ≤ 1 := by have := m4 q; show (ye_mn w U k s).natAbs ≤ _; omega
      have x1 := ba_nm (ba_nm a b1.1) D'a
      have x2 := ba_nm (ba_nm a b2.1) b3.1
      exact Nat.lt_of_le_of_lt (Nat.add_le_add x1 x2) (by decide)
  · have : mn * F s v * D' - mn * F s (fun t => ch_N w t k) * F k v = mn * (D' * F s v - F s (fun t => ch_N w t k) * F k v) := by grind
    rw [this, ← st]
    grind
