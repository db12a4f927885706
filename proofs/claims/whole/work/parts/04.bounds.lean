/-! how large a minor of numbers up to 45 can be -/
theorem ba_nm {a b : Int} {x y : Nat} (ha : a.natAbs ≤ x) (hb : b.natAbs ≤ y) : (a * b).natAbs ≤ x * y := by
  rw [Int.natAbs_mul]; exact Nat.mul_le_mul ha hb
theorem ba_b2 {a b c d : Int} (ha : a.natAbs ≤ 45) (hb : b.natAbs ≤ 45) (hc : c.natAbs ≤ 45) (hd : d.natAbs ≤ 45) : (ba_d2 a b c d).natAbs ≤ 4050 := by
  unfold ba_d2
  have h1 := ba_nm ha hd
  have h2 := ba_nm hb hc
  have := Int.natAbs_sub_le (a * d) (b * c)
  omega
theorem ba_b3 {a b c d e f g h i : Int} (ha : a.natAbs ≤ 45) (hb : b.natAbs ≤ 45) (hc : c.natAbs ≤ 45) (hd : d.natAbs ≤ 45) (he : e.natAbs ≤ 45) (hf : f.natAbs ≤ 45) (hg : g.natAbs ≤ 45) (hh : h.natAbs ≤ 45) (hi : i.natAbs ≤ 45) : (ba_d3 a b c d e f g h i).natAbs ≤ 546750 := by
  unfold ba_d3
  have m0 := ba_nm ha (ba_b2 he hf hh hi)
  have m1 := ba_nm hb (ba_b2 hd hf hg hi)
  have m2 := ba_nm hc (ba_b2 hd he hg hh)
  have s1 := Int.natAbs_sub_le (a * ba_d2 e f h i) (b * ba_d2 d f g i)
  have s2 := Int.natAbs_add_le (a * ba_d2 e f h i - b * ba_d2 d f g i) (c * ba_d2 d e g h)
  omega
theorem ba_b4 {a b c d e f g h i j k l m n o p : Int} (ha : a.natAbs ≤ 45) (hb : b.natAbs ≤ 45) (hc : c.natAbs ≤ 45) (hd : d.natAbs ≤ 45) (he : e.natAbs ≤ 45) (hf : f.natAbs ≤ 45) (hg : g.natAbs ≤ 45) (hh : h.natAbs ≤ 45) (hi : i.natAbs ≤ 45) (hj : j.natAbs ≤ 45) (hk : k.natAbs ≤ 45) (hl : l.natAbs ≤ 45) (hm : m.natAbs ≤ 45) (hn : n.natAbs ≤ 45) (ho : o.natAbs ≤ 45) (hp : p.natAbs ≤ 45) : (ba_d4 a b c d e f g h i j k l m n o p).natAbs ≤ 98415000 := by
  unfold ba_d4
  have m0 := ba_nm ha (ba_b3 hf hg hh hj hk hl hn ho hp)
  have m1 := ba_nm hb (ba_b3 he hg hh hi hk hl hm ho hp)
  have m2 := ba_nm hc (ba_b3 he hf hh hi hj hl hm hn hp)
  have m3 := ba_nm hd (ba_b3 he hf hg hi hj hk hm hn ho)
  have s1 := Int.natAbs_sub_le (a * ba_d3 f g h j k l n o p) (b * ba_d3 e g h i k l m o p)
  have s2 := Int.natAbs_add_le (a * ba_d3 f g h j k l n o p - b * ba_d3 e g h i k l m o p) (c * ba_d3 e f h i j l m n p)
  have s3 := Int.natAbs_sub_le (a * ba_d3 f g h j k l n o p - b * ba_d3 e g h i k l m o p + c * ba_d3 e f h i j l m n p) (d * ba_d3 e f g i j k m n o)
  omega
def ba_bd : Nat → Nat
  | 0 => 1
  | 1 => 45
  | 2 => 4050
  | 3 => 546750
  | _ => 98415000
theorem ba_FbIn (N : Nat → Nat → Int) (v : Nat → Int) (P : List Nat) (s : Nat) (hs : s ∈ P) (hN : ∀ a, a ∈ P → ∀ b, b ∈ P → (N a b).natAbs ≤ 45) (hv : ∀ a, a ∈ P → (v a).natAbs ≤ 45) : (ba_F N P s v).natAbs ≤ ba_bd P.length := by
  match P, hs, hN, hv with
  | [], hs, _, _ => simp at hs
  | [p], hs, hN, hv =>
    simp only [List.mem_cons, List.not_mem_nil, or_false] at hs
    show (ba_F N [p] s v).natAbs ≤ 45
    simp only [ba_F]
    by_cases ep : s = p
    · rw [if_pos ep]; exact (hv p (by simp))
    rw [if_neg ep]
    exact absurd hs (by simp [ep])
  | [p, q], hs, hN, hv =>
    simp only [List.mem_cons, List.not_mem_nil, or_false] at hs
    show (ba_F N [p, q] s v).natAbs ≤ 4050
    simp only [ba_F]
    by_cases ep : s = p
    · rw [if_pos ep]; exact ba_b2 (hv p (by simp)) (hN p (by simp) q (by simp)) (hv q (by simp)) (hN q (by simp) q (by simp))
    rw [if_neg ep]
    by_cases eq : s = q
    · rw [if_pos eq]; exact ba_b2 (hN p (by simp) p (by simp)) (hv p (by simp)) (hN q (by simp) p (by simp)) (hv q (by simp))
    rw [if_neg eq]
    exact absurd hs (by simp [ep, eq])
  | [p, q, r], hs, hN, hv =>
    simp only [List.mem_cons, List.not_mem_nil, or_false] at hs
    show (ba_F N [p, q, r] s v).natAbs ≤ 546750
    simp only [ba_F]
    by_cases ep : s = p
    · rw [if_pos ep]; exact ba_b3 (hv p (by simp)) (hN p (by simp) q (by simp)) (hN p (by simp) r (by simp)) (hv q (by simp)) (hN q (by simp) q (by simp)) (hN q (by simp) r (by simp)) (hv r (by simp)) (hN r (by simp) q (by simp)) (hN r (by simp) r (by simp))
    rw [if_neg ep]
    by_cases eq : s = q
    · rw [if_pos eq]; exact ba_b3 (hN p (by simp) p (by simp)) (hv p (by simp)) (hN p (by simp) r (by simp)) (hN q (by simp) p (by simp)) (hv q (by simp)) (hN q (by simp) r (by simp)) (hN r (by simp) p (by simp)) (hv r (by simp)) (hN r (by simp) r (by simp))
    rw [if_neg eq]
    by_cases er : s = r
    · rw [if_pos er]; exact ba_b3 (hN p (by simp) p (by simp)) (hN p (by simp) q (by simp)) (hv p (by simp)) (hN q (by simp) p (by simp)) (hN q (by simp) q (by simp)) (hv q (by simp)) (hN r (by simp) p (by simp)) (hN r (by simp) q (by simp)) (hv r (by simp))
    rw [if_neg er]
    exact absurd hs (by simp [ep, eq, er])
  | [p, q, r, t], hs, hN, hv =>
    simp only [List.mem_cons, List.not_mem_nil, or_false] at hs
    show (ba_F N [p, q, r, t] s v).natAbs ≤ 98415000
    simp only [ba_F]
    by_cases ep : s = p
    · rw [if_pos ep]; exact ba_b4 (hv p (by simp)) (hN p (by simp) q (by simp)) (hN p (by simp) r (by simp)) (hN p (by simp) t (by simp)) (hv q (by simp)) (hN q (by simp) q (by simp)) (hN q (by simp) r (by simp)) (hN q (by simp) t (by simp)) (hv r (by simp)) (hN r (by simp) q (by simp)) (hN r (by simp) r (by simp)) (hN r (by simp) t (by simp)) (hv t (by simp)) (hN t (by simp) q (by simp)) (hN t (by simp) r (by simp)) (hN t (by simp) t (by simp))
    rw [if_neg ep]
    by_cases eq : s = q
    · rw [if_pos eq]; exact ba_b4 (hN p (by simp) p (by simp)) (hv p (by simp)) (hN p (by simp) r (by simp)) (hN p (by simp) t (by simp)) (hN q (by simp) p (by simp)) (hv q (by simp)) (hN q (by simp) r (by simp)) (hN q (by simp) t (by simp)) (hN r (by simp) p (by simp)) (hv r (by simp)) (hN r (by simp) r (by simp)) (hN r (by simp) t (by simp)) (hN t (by simp) p (by simp)) (hv t (by simp)) (hN t (by simp) r (by simp)) (hN t (by simp) t (by simp))
    rw [if_neg eq]
    by_cases er : s = r
    · rw [if_pos er]; exact ba_b4 (hN p (by simp) p (by simp)) (hN p (by simp) q (by simp)) (hv p (by simp)) (hN p (by simp) t (by simp)) (hN q (by simp) p (by simp)) (hN q (by simp) q (by simp)) (hv q (by simp)) (hN q (by simp) t (by simp)) (hN r (by simp) p (by simp)) (hN r (by simp) q (by simp)) (hv r (by simp)) (hN r (by simp) t (by simp)) (hN t (by simp) p (by simp)) (hN t (by simp) q (by simp)) (hv t (by simp)) (hN t (by simp) t (by simp))
    rw [if_neg er]
    by_cases et : s = t
    · rw [if_pos et]; exact ba_b4 (hN p (by simp) p (by simp)) (hN p (by simp) q (by simp)) (hN p (by simp) r (by simp)) (hv p (by simp)) (hN q (by simp) p (by simp)) (hN q (by simp) q (by simp)) (hN q (by simp) r (by simp)) (hv q (by simp)) (hN r (by simp) p (by simp)) (hN r (by simp) q (by simp)) (hN r (by simp) r (by simp)) (hv r (by simp)) (hN t (by simp) p (by simp)) (hN t (by simp) q (by simp)) (hN t (by simp) r (by simp)) (hv t (by simp))
    rw [if_neg et]
    exact absurd hs (by simp [ep, eq, er, et])
  | _ :: _ :: _ :: _ :: _ :: _, _, _, _ => exact Nat.zero_le _
theorem ba_FbOut (N : Nat → Nat → Int) (v : Nat → Int) (P : List Nat) (s : Nat) (hs : s ∉ P) (hN : ∀ a, a ∈ s :: P → ∀ b, b ∈ s :: P → (N a b).natAbs ≤ 45) (hv : ∀ a, a ∈ s :: P → (v a).natAbs ≤ 45) : (ba_F N P s v).natAbs ≤ ba_bd (P.length + 1) := by
  match P, hs, hN, hv with
  | [], _, _, hv => exact hv s (by simp)
  | [p], hs, hN, hv =>
    simp only [List.mem_cons, List.not_mem_nil, or_false, not_or] at hs
    show (ba_F N [p] s v).natAbs ≤ 4050
    simp only [ba_F, hs, if_false]
    exact ba_b2 (hN p (by simp) p (by simp)) (hv p (by simp)) (hN s (by simp) p (by simp)) (hv s (by simp))
  | [p, q], hs, hN, hv =>
    simp only [List.mem_cons, List.not_mem_nil, or_false, not_or] at hs
    show (ba_F N [p, q] s v).natAbs ≤ 546750
    simp only [ba_F, hs, if_false]
    exact ba_b3 (hN p (by simp) p (by simp)) (hN p (by simp) q (by simp)) (hv p (by simp)) (hN q (by simp) p (by simp)) (hN q (by simp) q (by simp)) (hv q (by simp)) (hN s (by simp) p (by simp)) (hN s (by simp) q (by simp)) (hv s (by simp))
  | [p, q, r], hs, hN, hv =>
    simp only [List.mem_cons, List.not_mem_nil, or_false, not_or] at hs
    show (ba_F N [p, q, r] s v).natAbs ≤ 98415000
    simp only [ba_F, hs, if_false]
    exact ba_b4 (hN p (by simp) p (by simp)) (hN p (by simp) q (by simp)) (hN p (by simp) r (by simp)) (hv p (by simp)) (hN q (by simp) p (by simp)) (hN q (by simp) q (by simp)) (hN q (by simp) r (by simp)) (hv q (by simp)) (hN r (by simp) p (by simp)) (hN r (by simp) q (by simp)) (hN r (by simp) r (by simp)) (hv r (by simp)) (hN s (by simp) p (by simp)) (hN s (by simp) q (by simp)) (hN s (by simp) r (by simp)) (hv s (by simp))
  | [p, q, r, t], hs, _, _ =>
    simp only [List.mem_cons, List.not_mem_nil, or_false, not_or] at hs
    simp only [ba_F, hs, if_false]
    exact Nat.zero_le _
  | _ :: _ :: _ :: _ :: _ :: _, _, _, _ => exact Nat.zero_le _
theorem ba_bd_mono : ∀ k, k ≤ 4 → ba_bd k ≤ 98415000 := by
  intro k hk
  match k, hk with
  | 0, _ => decide
  | 1, _ => decide
  | 2, _ => decide
  | 3, _ => decide
  | 4, _ => decide
theorem ba_bd_all (k : Nat) : ba_bd k ≤ 98415000 := by
  match k with
  | 0 => decide
  | 1 => decide
  | 2 => decide
  | 3 => decide
  | _ + 4 => exact Nat.le_refl _
theorem ba_Fb {n : Nat} {U : Nat → Bool} {N : Nat → Nat → Int} {v : Nat → Int} {k s : Nat} (hk : k ≤ n) (hs : s < n) (us : U s = true)
    (hN : ∀ a, a < n → U a = true → ∀ b, b < n → U b = true → (N a b).natAbs ≤ 45) (hv : ∀ a, a < n → U a = true → (v a).natAbs ≤ 45) : (ba_F N (ba_ops U k) s v).natAbs ≤ 98415000 := by
  have m : ∀ a, a ∈ ba_ops U k → a < n ∧ U a = true := fun a ha => ⟨by have := (ba_ops_mem.mp ha).1; omega, (ba_ops_mem.mp ha).2⟩
  by_cases e : s ∈ ba_ops U k
  · exact Nat.le_trans (ba_FbIn N v _ s e (fun a ha b hb => hN a (m a ha).1 (m a ha).2 b (m b hb).1 (m b hb).2) (fun a ha => hv a (m a ha).1 (m a ha).2)) (ba_bd_all _)
  · have m2 : ∀ a, a ∈ s :: ba_ops U k → a < n ∧ U a = true := fun a ha => by
      rcases List.mem_cons.mp ha with rfl | h
      · exact ⟨hs, us⟩
      · exact m a h
    exact Nat.le_trans (ba_FbOut N v _ s e (fun a ha b hb => hN a (m2 a ha).1 (m2 a ha).2 b (m2 b hb).1 (m2 b hb).2) (fun a ha => hv a (m2 a ha).1 (m2 a ha).2)) (ba_bd_all _)
theorem ba_Dle {n : Nat} {U : Nat → Bool} {N : Nat → Nat → Int} {g : Nat → Int} (hn : n ≤ 5) {z : Nat} (hz : z < n) (uz : U z = false)
    (hT : ∀ k, k ≤ n → ba_T n U N g k (ba_F N (ba_ops U k)) (ba_D N (ba_ops U k)))
    (hN : ∀ a, a < n → U a = true → N a a ≤ 45) : ∀ k, k ≤ n → ba_D N (ba_ops U k) ≤ 45 ^ (ba_ops U k).length := by
  intro k
  induction k with
  | zero => intro _; exact Int.le_refl _
  | succ k ih =>
    intro hk
    have a := ih (by omega)
    by_cases uk : U k = true
    · have ni : k ∉ ba_ops U k := fun q => by have := (ba_ops_mem.mp q).1; omega
      have zk : z ≠ k := fun q => by rw [q, uk] at uz; cases uz
      have l1 := ba_ops_len U k
      have l3 : (ba_ops U k).length ≤ 3 := by
        rcases Nat.lt_or_ge k 4 with q | q
        · omega
        · have := ba_ops_lenz uz k (by omega); omega
      have e : ba_ops U (k + 1) = ba_ops U k ++ [k] := by simp only [ba_ops, uk, if_true]
      obtain ⟨h1, h2, h3, h4, h5, h6, h7, h8, h9⟩ := hT k (by omega)
      have b := h7 k (Nat.le_refl k) (by omega) uk
      have c := hN k (by omega) uk
      rw [e, ba_stepD N _ _ l3 ni, List.length_append, List.length_singleton, Int.pow_succ]
      have d : N k k * ba_D N (ba_ops U k) ≤ 45 * ba_D N (ba_ops U k) := Int.mul_le_mul_of_nonneg_right c (by omega)
      omega
    · have uk' : U k = false := by simpa using uk
      have e : ba_ops U (k + 1) = ba_ops U k := ba_ops_n uk
      rw [e]; exact a
