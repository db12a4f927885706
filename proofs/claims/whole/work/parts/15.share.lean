/-! the chance to come to a state of a closed set of states is the chance to come to the set -/
theorem sv_H_G {n : Nat} {w : Nat → Nat} {U G : Nat → Bool} {s : Nat} (u : U s = false) (g : G s = true) : sv_H n w U G s = sv_D n w U := by
  unfold sv_H; simp [u, g]
theorem sv_H_0 {n : Nat} {w : Nat → Nat} {U G : Nat → Bool} {s : Nat} (u : U s = false) (g : G s = false) : sv_H n w U G s = 0 := by
  unfold sv_H; simp [u, g]
theorem sv_in_class {n : Nat} {w : Nat → Nat} (ok : ch_ok n w) {U C : Nat → Bool} {j : Nat} (hj : j < n) (r : sv_rank n w U) (uj : U j = false)
    (hC : ∀ s, s < n → C s = true → s ≠ j → U s = true) (cl : ∀ s c, s < n → c < n → C s = true → 0 < ch_sw w s c → C c = true) {s : Nat} (hs : s < n) (cs : C s = true) :
    sv_H n w U (fun s => decide (s = j)) s = sv_D n w U := by
  by_cases e : s = j
  · exact sv_H_G (by rw [e]; exact uj) (by simp [e])
  · have us := hC s hs cs e
    let V : Nat → Bool := fun s => (C s && decide (s < n)) && !(decide (s = j))
    have hV : ∀ s, V s = true ↔ (C s = true ∧ s < n ∧ s ≠ j) := fun s => by simp [V, and_assoc]
    have sub : ∀ s, V s = true → U s = true := fun s h => hC s ((hV s).mp h).2.1 ((hV s).mp h).1 ((hV s).mp h).2.2
    have hU := sv_of ok r
    have hv := sv_of ok (sv_rank_sub r sub)
    have vs : V s = true := (hV s).mpr ⟨cs, hs, e⟩
    have a := sv_restrict hU hv sub (by
      intro t ht vt c hc uc nc
      rcases Nat.eq_zero_or_pos (ch_sw w t c) with z | z
      · exact z
      · exfalso
        have := cl t c ht hc ((hV t).mp vt).1 z
        have cj : c ≠ j := fun q => by rw [q, uj] at uc; cases uc
        rw [(hV c).mpr ⟨this, hc, cj⟩] at nc
        cases nc) (sv_v n w (fun s => decide (s = j))) hs vs
    have b := sv_uniq hv (sv_v n w (fun s => decide (s = j))) (fun _ => 1) 1 (by
      intro t ht vt
      rw [sv_row ht vt, ← ch_sum ok ht]
      have q : ba_S (fun c => (ch_sw w t c : Int)) n = ba_S (fun c => (if V c = true then (ch_sw w t c : Int) * 1 else 0) + (if decide (c = j) = true then (ch_sw w t c : Int) else 0)) n := by
        apply ba_S_congr
        intro c hc
        by_cases vc : V c = true
        · have := ((hV c).mp vc).2.2
          simp [vc, this]
        · by_cases cj : c = j
          · rw [if_neg vc]; simp [cj]
          · have z : ch_sw w t c = 0 := by
              rcases Nat.eq_zero_or_pos (ch_sw w t c) with z | z
              · exact z
              · exact absurd ((hV c).mpr ⟨cl t c ht hc ((hV t).mp vt).1 z, hc, cj⟩) vc
            simp [vc, cj, z]
      have e9 : sv_v n w (fun s => decide (s = j)) t = ba_S (fun c => if decide (c = j) = true then (ch_sw w t c : Int) else 0) n := rfl
      rw [q, ba_S_add, e9]
      omega) hs vs
    have d := sv_pos hv
    have f : sv_H n w U (fun s => decide (s = j)) s = sv_F n w U s (sv_v n w (fun s => decide (s = j))) := by unfold sv_H; rw [if_pos us]
    rw [f]
    apply ba_cancel d
    rw [Int.mul_comm, a]
    have : sv_D n w V = sv_F n w V s (sv_v n w (fun s => decide (s = j))) := by omega
    rw [← this]
    exact Int.mul_comm _ _
theorem sv_share {n : Nat} {w : Nat → Nat} (ok : ch_ok n w) {U C V : Nat → Bool} {j : Nat} (hj : j < n) (r : sv_rank n w U) (uj : U j = false) (cj : C j = true)
    (hC : ∀ s, s < n → C s = true → s ≠ j → U s = true) (cl : ∀ s c, s < n → c < n → C s = true → 0 < ch_sw w s c → C c = true)
    (hV : ∀ s, V s = true ↔ (U s = true ∧ C s = false)) {i : Nat} (hi : i < n) :
    sv_H n w U (fun s => decide (s = j)) i * sv_D n w V = sv_H n w V C i * sv_D n w U := by
  have hU := sv_of ok r
  have hv := sv_of ok (sv_rank_sub r (fun s h => ((hV s).mp h).1))
  have dis : ∀ s, s < n → U s = true → (fun s => decide (s = j)) s = false := fun s _ us => by
    have : s ≠ j := fun q => by rw [q, uj] at us; cases us
    simpa using this
  by_cases ci : C i = true
  · rw [sv_in_class ok hj r uj hC cl hi ci, sv_H_G (by cases e : V i with | false => rfl | true => rw [((hV i).mp e).2] at ci; cases ci) ci]
    exact Int.mul_comm _ _
  · have ci' : C i = false := by simpa using ci
    have ij : i ≠ j := fun q => ci (q ▸ cj)
    by_cases ui : U i = true
    · have vi : V i = true := (hV i).mpr ⟨ui, ci'⟩
      have a := sv_uniq hv (sv_v n w C) (fun c => sv_H n w U (fun s => decide (s = j)) c) (sv_D n w U) (by
        intro s hs vs
        rw [sv_row hs vs, sv_harm hU dis hs ((hV s).mp vs).1]
        have q : ba_S (fun c => (ch_sw w s c : Int) * sv_H n w U (fun s => decide (s = j)) c) n = ba_S (fun c => (if V c = true then (ch_sw w s c : Int) * sv_H n w U (fun s => decide (s = j)) c else 0) + sv_D n w U * (if C c = true then (ch_sw w s c : Int) else 0)) n := by
          apply ba_S_congr
          intro c hc
          by_cases cc : C c = true
          · have vc : ¬ V c = true := fun q => by rw [((hV c).mp q).2] at cc; cases cc
            rw [if_neg vc, if_pos cc, sv_in_class ok hj r uj hC cl hc cc]
            grind
          · have cc' : C c = false := by simpa using cc
            by_cases uc : U c = true
            · rw [if_pos ((hV c).mpr ⟨uc, cc'⟩), if_neg cc]; grind
            · have vc : ¬ V c = true := fun q => uc ((hV c).mp q).1
              have cj' : c ≠ j := fun q => cc (q ▸ cj)
              rw [if_neg vc, if_neg cc, sv_H_0 (by simpa using uc) (by simpa using cj')]
              simp
        rw [q, ba_S_add, ba_S_mul]
        unfold sv_v
        omega) hi vi
      have f : sv_H n w V C i = sv_F n w V i (sv_v n w C) := by unfold sv_H; rw [if_pos vi]
      rw [f]
      rw [a]
      exact Int.mul_comm _ _
    · have vi : V i = false := by
        cases e : V i with
        | false => rfl
        | true => exact absurd ((hV i).mp e).1 ui
      rw [sv_H_0 (by simpa using ui) (by simpa using ij), sv_H_0 vi ci']
      simp
