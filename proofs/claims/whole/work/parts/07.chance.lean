/-! chances, times and visits as quotients of whole numbers -/
def sv_rank (n : Nat) (w : Nat → Nat) (U : Nat → Bool) : Prop :=
  ∃ z, ∃ rk : Nat → Nat, z < n ∧ U z = false ∧ (∀ s, s < n → U s = true → 1 ≤ rk s ∧ rk s ≤ 5) ∧
    (∀ s, s < n → U s = true → ∃ c, c < n ∧ 0 < ch_sw w s c ∧ (U c = true → rk c < rk s))
theorem sv_of {n : Nat} {w : Nat → Nat} (ok : ch_ok n w) {U : Nat → Bool} (h : sv_rank n w U) : sv_ok n w U := by
  obtain ⟨z, rk, hz, uz, hr, hs⟩ := h
  exact sv_mk ok hz uz hr hs
theorem sv_rank_sub {n : Nat} {w : Nat → Nat} {U U' : Nat → Bool} (h : sv_rank n w U) (sub : ∀ s, U' s = true → U s = true) : sv_rank n w U' := by
  obtain ⟨z, rk, hz, uz, hr, hs⟩ := h
  refine ⟨z, rk, hz, ?_, fun s hn us => hr s hn (sub s us), fun s hn us => ?_⟩
  · cases e : U' z
    · rfl
    · rw [sub z e] at uz; cases uz
  · obtain ⟨c, hc, p, lt⟩ := hs s hn (sub s us)
    exact ⟨c, hc, p, fun uc => lt (sub c uc)⟩
theorem sv_row {n : Nat} {w : Nat → Nat} {U : Nat → Bool} {s : Nat} (hs : s < n) (us : U s = true) (y : Nat → Int) : ba_S (fun c => (if U c = true then ch_N w s c else 0) * y c) n = (ch_tot w s : Int) * y s - ba_S (fun c => if U c = true then (ch_sw w s c : Int) * y c else 0) n := by
  have e1 : ba_S (fun c => (if U c = true then ch_N w s c else 0) * y c) n = ba_S (fun c => (if c = s then (ch_tot w s : Int) * y s else 0) + (-1) * (if U c = true then (ch_sw w s c : Int) * y c else 0)) n := by
    apply ba_S_congr
    intro c _
    by_cases q : c = s
    · subst q
      simp only [us, if_true, ch_N]
      grind
    · by_cases uc : U c = true
      · simp only [uc, if_true, if_neg q, ch_N_off q]
        grind
      · simp [uc, q]
  rw [e1, ba_S_add, ba_S_mul, ba_S_one hs (fun c _ hc => by simp [hc]), if_pos rfl]
  omega
theorem sv_restrict {n : Nat} {w : Nat → Nat} {U U' : Nat → Bool} (h : sv_ok n w U) (h' : sv_ok n w U') (sub : ∀ s, U' s = true → U s = true)
    (no : ∀ s, s < n → U' s = true → ∀ c, c < n → U c = true → U' c = false → ch_sw w s c = 0) (v : Nat → Int) {s : Nat} (hs : s < n) (us : U' s = true) :
    sv_F n w U s v * sv_D n w U' = sv_D n w U * sv_F n w U' s v := by
  refine sv_uniq h' v (fun c => sv_F n w U c v) (sv_D n w U) ?_ hs us
  intro t ht ut
  rw [sv_sol h ht (sub t ut) v, sv_row ht ut, sv_row ht (sub t ut)]
  congr 1
  apply ba_S_congr
  intro c hc
  by_cases uc : U' c = true
  · rw [if_pos uc, if_pos (sub c uc)]
  · rw [if_neg uc]
    by_cases vc : U c = true
    · rw [if_pos vc, no t ht ut c hc vc (by simpa using uc)]; simp
    · rw [if_neg vc]
def sv_v (n : Nat) (w : Nat → Nat) (G : Nat → Bool) (s : Nat) : Int := ba_S (fun c => if G c = true then (ch_sw w s c : Int) else 0) n
def sv_H (n : Nat) (w : Nat → Nat) (U G : Nat → Bool) (s : Nat) : Int := if U s = true then sv_F n w U s (sv_v n w G) else if G s = true then sv_D n w U else 0
theorem sv_v_nonneg (n : Nat) (w : Nat → Nat) (G : Nat → Bool) (s : Nat) : 0 ≤ sv_v n w G s := by
  apply ba_S_nonneg
  intro c _
  split <;> omega
theorem sv_v_le {n : Nat} {w : Nat → Nat} (ok : ch_ok n w) (G : Nat → Bool) {s : Nat} (hs : s < n) : sv_v n w G s ≤ (ch_tot w s : Int) := by
  rw [← ch_sum ok hs]
  apply ba_S_le
  intro c _
  split <;> omega
theorem sv_harm {n : Nat} {w : Nat → Nat} {U G : Nat → Bool} (h : sv_ok n w U) (dis : ∀ s, s < n → U s = true → G s = false) {s : Nat} (hs : s < n) (us : U s = true) :
    (ch_tot w s : Int) * sv_H n w U G s = ba_S (fun c => (ch_sw w s c : Int) * sv_H n w U G c) n := by
  have a := sv_sol h hs us (sv_v n w G)
  rw [sv_row hs us] at a
  have e : ba_S (fun c => (ch_sw w s c : Int) * sv_H n w U G c) n = ba_S (fun c => (if U c = true then (ch_sw w s c : Int) * sv_F n w U c (sv_v n w G) else 0) + sv_D n w U * (if G c = true then (ch_sw w s c : Int) else 0)) n := by
    apply ba_S_congr
    intro c hc
    unfold sv_H
    by_cases uc : U c = true
    · simp [uc, dis c hc uc]
    · by_cases gc : G c = true
      · simp only [uc, gc, if_true, if_false]; grind
      · simp [uc, gc]
  rw [e, ba_S_add, ba_S_mul]
  have f : sv_H n w U G s = sv_F n w U s (sv_v n w G) := by unfold sv_H; rw [if_pos us]
  rw [f]
  unfold sv_v at *
  omega
theorem sv_H_nonneg {n : Nat} {w : Nat → Nat} {U G : Nat → Bool} (h : sv_ok n w U) {s : Nat} (hs : s < n) : 0 ≤ sv_H n w U G s := by
  unfold sv_H
  split
  · rename_i us
    exact sv_nonneg h hs us (fun t _ _ => sv_v_nonneg n w G t)
  · split
    · have := sv_pos h; omega
    · exact Int.le_refl _
theorem sv_one {n : Nat} {w : Nat → Nat} {U : Nat → Bool} (h : sv_ok n w U) {v : Nat → Int} (hv : ∀ t, t < n → U t = true → v t ≤ ba_S (fun c => if U c = true then ch_N w t c else 0) n) {s : Nat} (hs : s < n) (us : U s = true) : sv_F n w U s v ≤ sv_D n w U := by
  have a := sv_uniq h (fun t => ba_S (fun c => if U c = true then ch_N w t c else 0) n) (fun _ => 1) 1 (fun t _ _ => by simp) hs us
  have b := sv_lin h hs us v (fun t => ba_S (fun c => if U c = true then ch_N w t c else 0) n - v t) 1
  have c := sv_nonneg h hs us (v := fun t => ba_S (fun c => if U c = true then ch_N w t c else 0) n - v t) (fun t ht ut => by have := hv t ht ut; omega)
  have e : (fun t => v t + 1 * (ba_S (fun c => if U c = true then ch_N w t c else 0) n - v t)) = (fun t => ba_S (fun c => if U c = true then ch_N w t c else 0) n) := by
    funext t; omega
  rw [e] at b
  omega
theorem sv_rowsum {n : Nat} {w : Nat → Nat} (ok : ch_ok n w) {U : Nat → Bool} {s : Nat} (hs : s < n) (us : U s = true) : ba_S (fun c => if U c = true then ch_N w s c else 0) n = ba_S (fun c => if U c = true then 0 else (ch_sw w s c : Int)) n := by
  have a := sv_row (w := w) hs us (fun _ => 1)
  simp only [Int.mul_one] at a
  rw [a, ← ch_sum ok hs]
  have e : ba_S (fun c => (ch_sw w s c : Int)) n = ba_S (fun c => (if U c = true then (ch_sw w s c : Int) else 0) + (if U c = true then 0 else (ch_sw w s c : Int))) n := by
    apply ba_S_congr
    intro c _
    split <;> omega
  rw [e, ba_S_add]
  omega
theorem sv_H_le {n : Nat} {w : Nat → Nat} (ok : ch_ok n w) {U G : Nat → Bool} (h : sv_ok n w U) (dis : ∀ s, s < n → U s = true → G s = false) {s : Nat} (hs : s < n) : sv_H n w U G s ≤ sv_D n w U := by
  unfold sv_H
  split
  · rename_i us
    refine sv_one h ?_ hs us
    intro t ht ut
    rw [sv_rowsum ok ht ut]
    apply ba_S_le
    intro c hc
    by_cases uc : U c = true
    · rw [if_pos uc, dis c hc uc]; simp
    · rw [if_neg uc]; split <;> omega
  · have := sv_pos h
    split <;> omega
theorem sv_sure {n : Nat} {w : Nat → Nat} (ok : ch_ok n w) {U G : Nat → Bool} (h : sv_ok n w U) (dis : ∀ s, s < n → U s = true → G s = false) {s : Nat} (hs : s < n) (us : U s = true) (e : sv_H n w U G s = sv_D n w U) {c : Nat} (hc : c < n) (sc : 0 < ch_sw w s c) : sv_H n w U G c = sv_D n w U := by
  have a := sv_harm h dis hs us
  rw [e, ← ch_sum ok hs, Int.mul_comm, ← ba_S_mul] at a
  have b : ba_S (fun c => (ch_sw w s c : Int) * (sv_D n w U - sv_H n w U G c)) n = 0 := by
    have q : ba_S (fun c => (ch_sw w s c : Int) * (sv_D n w U - sv_H n w U G c)) n = ba_S (fun c => sv_D n w U * (ch_sw w s c : Int) + (-1) * ((ch_sw w s c : Int) * sv_H n w U G c)) n := by
      apply ba_S_congr
      intro c _
      grind
    rw [q, ba_S_add, ba_S_mul (-1)]
    omega
  have d := ba_S_ge1 (f := fun c => (ch_sw w s c : Int) * (sv_D n w U - sv_H n w U G c)) hc (fun t ht => Int.mul_nonneg (by omega) (by have := sv_H_le ok h dis ht; omega))
  rw [b] at d
  have l := sv_H_le ok h dis hc
  have k : sv_D n w U - sv_H n w U G c ≤ 0 := by
    apply Int.le_of_mul_le_mul_left (a := (ch_sw w s c : Int)) _ (by omega)
    simpa using d
  omega
/-- times: on the states that come for sure, the system of all that lead there and the system of the sure ones agree -/
theorem sv_time {n : Nat} {w : Nat → Nat} (ok : ch_ok n w) {U G U' : Nat → Bool} (r : sv_rank n w U) (dis : ∀ s, s < n → U s = true → G s = false)
    (hU' : ∀ s, U' s = true ↔ (U s = true ∧ sv_H n w U G s = sv_D n w U)) (v : Nat → Int) {s : Nat} (hs : s < n) (us : U' s = true) :
    sv_F n w U s v * sv_D n w U' = sv_D n w U * sv_F n w U' s v := by
  have sub : ∀ s, U' s = true → U s = true := fun s h => ((hU' s).mp h).1
  refine sv_restrict (sv_of ok r) (sv_of ok (sv_rank_sub r sub)) sub ?_ v hs us
  intro t ht ut c hc uc nc
  rcases Nat.eq_zero_or_pos (ch_sw w t c) with z | z
  · exact z
  · exfalso
    have := sv_sure ok (sv_of ok r) dis ht ((hU' t).mp ut).1 ((hU' t).mp ut).2 hc z
    rw [(hU' c).mpr ⟨uc, this⟩] at nc
    cases nc
/-- visits: out of the chance to come and the chance to come back -/
theorem sv_visit {n : Nat} {w : Nat → Nat} (ok : ch_ok n w) {U V : Nat → Bool} {j : Nat} (hj : j < n) (r : sv_rank n w U) (rV : sv_rank n w V)
    (hU : ∀ s, s < n → (U s = true ↔ (V s = true ∧ s ≠ j))) (vj : V j = true) :
    let H := sv_H n w U (fun s => decide (s = j))
    let R := (ch_tot w j : Int) * sv_D n w U - ba_S (fun c => (ch_sw w j c : Int) * H c) n
    0 < R ∧ ∀ s, s < n → V s = true → (ch_tot w j : Int) * H s * sv_D n w V = R * sv_F n w V s (fun t => if t = j then (ch_tot w j : Int) else 0) := by
  intro H R
  have h := sv_of ok r
  have hV := sv_of ok rV
  have dis : ∀ s, s < n → U s = true → (fun s => decide (s = j)) s = false := fun s hs us => by
    have := ((hU s hs).mp us).2
    simpa using this
  have Hj : H j = sv_D n w U := by
    show sv_H n w U (fun s => decide (s = j)) j = _
    unfold sv_H
    have : ¬ U j = true := fun u => ((hU j hj).mp u).2 rfl
    simp [this]
  have H0 : ∀ c, c < n → ¬ V c = true → H c = 0 := by
    intro c hc nv
    show sv_H n w U (fun s => decide (s = j)) c = 0
    unfold sv_H
    have n1 : ¬ U c = true := fun u => nv ((hU c hc).mp u).1
    have n2 : ¬ c = j := fun e => nv (e ▸ vj)
    simp [n1, n2]
  have row : ∀ s, s < n → V s = true → ba_S (fun c => (if V c = true then ch_N w s c else 0) * H c) n = (ch_tot w s : Int) * H s - ba_S (fun c => (ch_sw w s c : Int) * H c) n := by
    intro s hs vs
    rw [sv_row hs vs]
    congr 1
    apply ba_S_congr
    intro c hc
    by_cases vc : V c = true
    · rw [if_pos vc]
    · rw [if_neg vc, H0 c hc vc]; simp
  have key : ∀ s, s < n → V s = true → ba_S (fun c => (if V c = true then ch_N w s c else 0) * H c) n = if s = j then R else 0 := by
    intro s hs vs
    rw [row s hs vs]
    by_cases e : s = j
    · rw [if_pos e, e, Hj]
    · rw [if_neg e]
      have := sv_harm h dis hs ((hU s hs).mpr ⟨vs, e⟩)
      show (ch_tot w s : Int) * sv_H n w U (fun s => decide (s = j)) s - _ = 0
      rw [this]
      exact Int.sub_self _
  have R0 : 0 ≤ R := by
    have : R = ba_S (fun c => (ch_sw w j c : Int) * (sv_D n w U - H c)) n := by
      have q : ba_S (fun c => (ch_sw w j c : Int) * (sv_D n w U - H c)) n = ba_S (fun c => sv_D n w U * (ch_sw w j c : Int) + (-1) * ((ch_sw w j c : Int) * H c)) n := by
        apply ba_S_congr
        intro c _
        grind
      rw [q, ba_S_add, ba_S_mul, ba_S_mul (-1), ch_sum ok hj]
      show _ = _
      grind
    rw [this]
    apply ba_S_nonneg
    intro c hc
    exact Int.mul_nonneg (by omega) (by have := sv_H_le ok h dis hc; show 0 ≤ sv_D n w U - sv_H n w U (fun s => decide (s = j)) c; omega)
  have un : ∀ s, s < n → V s = true → (ch_tot w j : Int) * H s * sv_D n w V = R * sv_F n w V s (fun t => if t = j then (ch_tot w j : Int) else 0) := by
    intro s hs vs
    refine sv_uniq hV (fun t => if t = j then (ch_tot w j : Int) else 0) (fun c => (ch_tot w j : Int) * H c) R ?_ hs vs
    intro t ht vt
    have e : ba_S (fun c => (if V c = true then ch_N w t c else 0) * ((ch_tot w j : Int) * H c)) n = (ch_tot w j : Int) * ba_S (fun c => (if V c = true then ch_N w t c else 0) * H c) n := by
      rw [← ba_S_mul]
      apply ba_S_congr
      intro c _
      grind
    rw [e, key t ht vt]
    by_cases q : t = j
    · rw [if_pos q, if_pos q]; exact Int.mul_comm _ _
    · rw [if_neg q, if_neg q]; simp
  refine ⟨?_, un⟩
  have z := un j hj vj
  rw [Hj] at z
  have p1 := sv_pos h
  have p2 := sv_pos hV
  have p3 := ch_tot_pos w j
  have p4 : 0 < (ch_tot w j : Int) * sv_D n w U * sv_D n w V := Int.mul_pos (Int.mul_pos (by omega) p1) p2
  rcases Int.lt_or_eq_of_le R0 with q | q
  · exact q
  · rw [← q] at z
    rw [z] at p4
    simp at p4
