/-! set and swap -/
def st_w (w : Nat → Nat) (k b : Nat) : Nat → Nat := fun x => if x = k then b else w x
theorem st_W {w : Nat → Nat} {i j b : Nat} (hj : j < 5) : ch_W (st_w w (5 * i + j) b) i + w (5 * i + j) = ch_W w i + b := by
  unfold ch_W st_w
  rcases (by omega : j = 0 ∨ j = 1 ∨ j = 2 ∨ j = 3 ∨ j = 4) with rfl | rfl | rfl | rfl | rfl <;> simp <;> omega
theorem st_Wo {w : Nat → Nat} {i j b r : Nat} (hj : j < 5) (ne : r ≠ i) : ch_W (st_w w (5 * i + j) b) r = ch_W w r := by
  unfold ch_W st_w
  rw [if_neg (by omega), if_neg (by omega), if_neg (by omega), if_neg (by omega), if_neg (by omega)]
theorem st_ok {n : Nat} {w : Nat → Nat} (ok : ch_ok n w) {i j b : Nat} (hi : i < n) (hj : j < n) (hb : b ≤ 9) : ch_ok n (st_w w (5 * i + j) b) := by
  obtain ⟨h1, h5, h9, hz⟩ := ok
  refine ⟨h1, h5, fun k hk => ?_, fun r c hr hc out => ?_⟩
  · unfold st_w
    split
    · exact hb
    · exact h9 k hk
  · unfold st_w
    rw [if_neg (by omega)]
    exact hz r c hr hc out
theorem st_alg (x y z t : Int32) (h : x + y = t + z) : x + (y - z) = t := by grind
theorem st_cr {n : Nat} {w : Nat → Nat} {a su : Nat → Int32} (c : cr_X n w a su) {i j b : Nat} (hi : i < n) (hj : j < n) (hb : b ≤ 9) :
    cr_X n (st_w w (5 * i + j) b) (upd a (5 * i + j) (nI b)) (upd su i (nI (ch_W w i) + (nI b - nI (w (5 * i + j))))) := by
  have h5 := c.1.2.1
  refine ⟨st_ok c.1 hi hj hb, fun k hk => ?_, fun r hr => ?_⟩
  · by_cases e : k = 5 * i + j
    · rw [e, pk_us]; unfold st_w; rw [if_pos rfl]
    · rw [pk_un e]; unfold st_w; rw [if_neg e]; exact c.2.1 k hk
  · by_cases e : r = i
    · subst e
      rw [pk_us]
      apply st_alg
      rw [nI_add, nI_add, st_W (by omega)]
    · rw [pk_un e, st_Wo (by omega) e]; exact c.2.2 r hr
theorem i_vc_set {k : Nat} {u : SX} {v : SY} (I : i_Rel k u v) (hk : k + 5 ≤ 2561) (v1 : Int32) (v2 : Int32) (v3 : Int32) : wpX_set (fun r u' => wpY_set (fun r' v' => r' = r ∧ i_Rel (k + 5) u' v') v v1 v2 v3) u v1 v2 v3 := by
  have J := i_up I
  obtain ⟨n, w, a, su, sy, ov, un, fa, fb, up, dn, op, tp, bt, nt, nb, rfl, rfl, c⟩ := I
  have h5 := c.1.2.1
  unfold wpX_set wpY_set
  dsimp only
  by_cases h1 : ∃ i, i < n ∧ v1 = nI i
  · obtain ⟨i, hi, rfl⟩ := h1
    by_cases h2 : ∃ j, j < n ∧ v2 = nI j
    · obtain ⟨j, hj, rfl⟩ := h2
      refine xm_st1 h5 hi (br_f (by decide) (xm_st1 h5 hj (br_f (by decide) ?_)))
      by_cases n3 : v3 < 0
      · exact br_t n3 (ym_st1 h5 hi (br_f (by decide) (ym_st1 h5 hj (br_f (by decide) (br_t n3 ⟨rfl, J⟩)))))
      · by_cases l9 : v3 ≤ 9
        · obtain ⟨b, hb, rfl⟩ := nI_of2 (M := 9) (n := 9) (by decide) n3 l9
          have e5 : nI i * 5 + nI j = nI (5 * i + j) := ix_5 i j
          have e5' : 5 * nI i + nI j = nI (5 * i + j) := ix_5' i j
          have ex : (nI (5 * i + j)).toNatClampNeg = 5 * i + j := nI_clamp (by omega)
          have ei : (nI i).toNatClampNeg = i := nI_clamp (by omega)
          have vx : vp_in (nI (5 * i + j)) 25 := vp_in_nI (by omega) (by decide)
          have vi : vp_in (nI i) 5 := vp_in_nI (by omega) (by decide)
          refine br_f n3 (br_t l9 (nm_r e5 ⟨vx, nm_e ⟨vx, nm_e ⟨vi, vi, nm_e ?_⟩⟩⟩))
          refine ym_st1 h5 hi (br_f (by decide) (ym_st1 h5 hj (br_f (by decide) (br_f n3 (br_t l9 ?_)))))
          rw [e5', ex, ei]
          refine ⟨vx, nm_e ⟨vx, nm_e ⟨rfl, ?_⟩⟩⟩
          rw [c.2.2 i (by omega), c.2.1 (5 * i + j) (by omega)]
          exact ir_mk (k + 5) (st_cr c hi hj hb) _ _ _ _ _ _ _ _ _ _ _ _
        · exact br_f n3 (br_f l9 (ym_st1 h5 hi (br_f (by decide) (ym_st1 h5 hj (br_f (by decide) (br_f n3 (br_f l9 ⟨rfl, J⟩)))))))
    · exact xm_st1 h5 hi (br_f (by decide) (xm_st0 h5 h2 (br_t rfl (ym_st1 h5 hi (br_f (by decide) (ym_st0 h5 h2 (br_t rfl ⟨rfl, J⟩)))))))
  · exact xm_st0 h5 h1 (br_t rfl (ym_st0 h5 h1 (br_t rfl ⟨rfl, J⟩)))
/-! swap -/
def sp_s (i j r : Nat) : Nat := if r = i then j else if r = j then i else r
def sp_ex (a : Nat → Int32) (p q : Nat) : Nat → Int32 := upd (upd a p (a q)) q (a p)
def sp_r (a : Nat → Int32) (i j : Nat) : Nat → Nat → Int32
  | 0 => a
  | k + 1 => sp_ex (sp_r a i j k) (5 * i + k) (5 * j + k)
def sp_c (a : Nat → Int32) (i j : Nat) : Nat → Nat → Int32
  | 0 => a
  | k + 1 => sp_ex (sp_c a i j k) (5 * k + i) (5 * k + j)
theorem sp_exv (a : Nat → Int32) (p q x : Nat) : sp_ex a p q x = if x = q then a p else if x = p then a q else a x := by
  unfold sp_ex
  by_cases e : x = q
  · rw [e, pk_us, if_pos rfl]
  · rw [pk_un e, if_neg e]
    by_cases e2 : x = p
    · rw [e2, pk_us, if_pos rfl]
    · rw [pk_un e2, if_neg e2]
theorem sp_slt {n i j r : Nat} (hi : i < n) (hj : j < n) (hr : r < n) : sp_s i j r < n := by
  unfold sp_s
  split
  · exact hj
  · split
    · exact hi
    · exact hr
theorem sp_sge {n i j r : Nat} (hi : i < n) (hj : j < n) (hr : n ≤ r) : sp_s i j r = r := by
  unfold sp_s
  rw [if_neg (by omega), if_neg (by omega)]
theorem sp_rv (a : Nat → Int32) {i j : Nat} (hi : i < 5) (hj : j < 5) : ∀ k, k ≤ 5 → (∀ r c, r < 5 → c < 5 → sp_r a i j k (5 * r + c) = if c < k then a (5 * sp_s i j r + c) else a (5 * r + c)) ∧ ∀ x, 25 ≤ x → sp_r a i j k x = a x := by
  intro k
  induction k with
  | zero => intro _; exact ⟨fun r c _ _ => by rw [if_neg (by omega)]; rfl, fun x _ => rfl⟩
  | succ k ih =>
    intro hk
    obtain ⟨h1, h2⟩ := ih (by omega)
    refine ⟨fun r c hr hc => ?_, fun x hx => ?_⟩
    · show sp_ex (sp_r a i j k) (5 * i + k) (5 * j + k) (5 * r + c) = _
      have hik : sp_r a i j k (5 * i + k) = a (5 * i + k) := (h1 i k hi (by omega)).trans (if_neg (Nat.lt_irrefl k))
      have hjk : sp_r a i j k (5 * j + k) = a (5 * j + k) := (h1 j k hj (by omega)).trans (if_neg (Nat.lt_irrefl k))
      rw [sp_exv, hik, hjk, h1 r c hr hc]
      by_cases e1 : 5 * r + c = 5 * j + k
      · have rj : r = j := by omega
        have ck : c = k := by omega
        subst rj ck
        rw [if_pos rfl, if_pos (by omega)]
        unfold sp_s
        by_cases q : r = i
        · rw [if_pos q, q]
        · rw [if_neg q, if_pos rfl]
      · rw [if_neg e1]
        by_cases e2 : 5 * r + c = 5 * i + k
        · have ri : r = i := by omega
          have ck : c = k := by omega
          subst ri ck
          rw [if_pos rfl, if_pos (by omega)]
          unfold sp_s
          rw [if_pos rfl]
        · rw [if_neg e2]
          by_cases q : c < k
          · rw [if_pos q, if_pos (by omega)]
          · rw [if_neg q]
            by_cases q2 : c = k
            · rw [if_pos (by omega)]
              have s : sp_s i j r = r := by unfold sp_s; rw [if_neg (by omega), if_neg (by omega)]
              rw [s]
            · rw [if_neg (by omega)]
    · show sp_ex (sp_r a i j k) (5 * i + k) (5 * j + k) x = _
      rw [sp_exv, if_neg (by omega), if_neg (by omega)]; exact h2 x hx
theorem sp_cv (a : Nat → Int32) {i j : Nat} (hi : i < 5) (hj : j < 5) : ∀ k, k ≤ 5 → (∀ r c, r < 5 → c < 5 → sp_c a i j k (5 * r + c) = if r < k then a (5 * r + sp_s i j c) else a (5 * r + c)) ∧ ∀ x, 25 ≤ x → sp_c a i j k x = a x := by
  intro k
  induction k with
  | zero => intro _; exact ⟨fun r c _ _ => by rw [if_neg (by omega)]; rfl, fun x _ => rfl⟩
  | succ k ih =>
    intro hk
    obtain ⟨h1, h2⟩ := ih (by omega)
    refine ⟨fun r c hr hc => ?_, fun x hx => ?_⟩
    · show sp_ex (sp_c a i j k) (5 * k + i) (5 * k + j) (5 * r + c) = _
      have hik : sp_c a i j k (5 * k + i) = a (5 * k + i) := (h1 k i (by omega) hi).trans (if_neg (Nat.lt_irrefl k))
      have hjk : sp_c a i j k (5 * k + j) = a (5 * k + j) := (h1 k j (by omega) hj).trans (if_neg (Nat.lt_irrefl k))
      rw [sp_exv, hik, hjk, h1 r c hr hc]
      by_cases e1 : 5 * r + c = 5 * k + j
      · have rk : r = k := by omega
        have cj : c = j := by omega
        subst rk cj
        rw [if_pos rfl, if_pos (by omega)]
        unfold sp_s
        by_cases q : c = i
        · rw [if_pos q, q]
        · rw [if_neg q, if_pos rfl]
      · rw [if_neg e1]
        by_cases e2 : 5 * r + c = 5 * k + i
        · have rk : r = k := by omega
          have ci : c = i := by omega
          subst rk ci
          rw [if_pos rfl, if_pos (by omega)]
          unfold sp_s
          rw [if_pos rfl]
        · rw [if_neg e2]
          by_cases q : r < k
          · rw [if_pos q, if_pos (by omega)]
          · rw [if_neg q]
            by_cases q2 : r = k
            · rw [if_pos (by omega)]
              have s : sp_s i j c = c := by unfold sp_s; rw [if_neg (by omega), if_neg (by omega)]
              rw [s]
            · rw [if_neg (by omega)]
    · show sp_ex (sp_c a i j k) (5 * k + i) (5 * k + j) x = _
      rw [sp_exv, if_neg (by omega), if_neg (by omega)]; exact h2 x hx
theorem sp_all {n : Nat} {w : Nat → Nat} {a : Nat → Int32} (c : cr_Y n w a) {i j : Nat} (hi : i < n) (hj : j < n) {k : Nat} (h1 : n ≤ k) (h2 : k ≤ 5) : (∀ r s, r < 5 → s < 5 → sp_c (sp_r a i j k) i j k (5 * r + s) = a (5 * sp_s i j r + sp_s i j s)) ∧ ∀ x, 25 ≤ x → sp_c (sp_r a i j k) i j k x = a x := by
  have h5 := c.1.2.1
  have R := sp_rv a (i := i) (j := j) (by omega) (by omega) k h2
  have C := sp_cv (sp_r a i j k) (i := i) (j := j) (by omega) (by omega) k h2
  have z : ∀ r s, r < 5 → s < 5 → (n ≤ r ∨ n ≤ s) → a (5 * r + s) = nI 0 := fun r s hr hs o => by rw [c.2 _ (by omega), c.1.2.2.2 r s hr hs o]
  have lt5 : ∀ r, r < 5 → sp_s i j r < 5 := fun r hr => sp_slt (by omega) (by omega) hr
  refine ⟨fun r s hr hs => ?_, fun x hx => by rw [C.2 x hx, R.2 x hx]⟩
  rw [C.1 r s hr hs]
  by_cases q : r < k
  · rw [if_pos q, R.1 r _ hr (lt5 s hs)]
    by_cases q2 : sp_s i j s < k
    · rw [if_pos q2]
    · rw [if_neg q2, z r _ hr (lt5 s hs) (.inr (by omega)), z _ _ (lt5 r hr) (lt5 s hs) (.inr (by omega))]
  · have er : sp_s i j r = r := sp_sge hi hj (by omega)
    rw [if_neg q, R.1 r s hr hs, er, z r _ hr (lt5 s hs) (.inl (by omega))]
    split
    · exact z r s hr hs (.inl (by omega))
    · exact z r s hr hs (.inl (by omega))
theorem sp_perm (f : Nat → Nat) {i j : Nat} (hi : i < 5) (hj : j < 5) : f (sp_s i j 0) + f (sp_s i j 1) + f (sp_s i j 2) + f (sp_s i j 3) + f (sp_s i j 4) = f 0 + f 1 + f 2 + f 3 + f 4 := by
  rcases (by omega : i = 0 ∨ i = 1 ∨ i = 2 ∨ i = 3 ∨ i = 4) with rfl | rfl | rfl | rfl | rfl <;> rcases (by omega : j = 0 ∨ j = 1 ∨ j = 2 ∨ j = 3 ∨ j = 4) with rfl | rfl | rfl | rfl | rfl <;> simp [sp_s] <;> omega
def sp_w (w : Nat → Nat) (i j x : Nat) : Nat := w (5 * sp_s i j (x / 5) + sp_s i j (x % 5))
theorem sp_wv (w : Nat → Nat) (i j r s : Nat) (hs : s < 5) : sp_w w i j (5 * r + s) = w (5 * sp_s i j r + sp_s i j s) := by
  unfold sp_w
  rw [show (5 * r + s) / 5 = r by omega, show (5 * r + s) % 5 = s by omega]
theorem sp_cr {n : Nat} {w : Nat → Nat} {a su : Nat → Int32} (c : cr_X n w a su) {i j : Nat} (hi : i < n) (hj : j < n) {a2 : Nat → Int32} (h : ∀ r s, r < 5 → s < 5 → a2 (5 * r + s) = a (5 * sp_s i j r + sp_s i j s)) :
    cr_X n (sp_w w i j) a2 (upd (upd su i (su j)) j (su i)) := by
  obtain ⟨⟨h1, h5, h9, hz⟩, ha, hsu⟩ := c
  have lt5 : ∀ r, r < 5 → sp_s i j r < 5 := fun r hr => sp_slt (by omega) (by omega) hr
  refine ⟨⟨h1, h5, fun k hk => ?_, fun r s hr hs o => ?_⟩, fun k hk => ?_, fun r hr => ?_⟩
  · unfold sp_w
    have := lt5 (k / 5) (by omega)
    have := lt5 (k % 5) (by omega)
    exact h9 _ (by omega)
  · rw [sp_wv w i j r s hs]
    refine hz _ _ (lt5 r hr) (lt5 s hs) ?_
    rcases o with o | o
    · rw [sp_sge hi hj o]; exact .inl o
    · rw [sp_sge hi hj o]; exact .inr o
  · have e : k = 5 * (k / 5) + k % 5 := by omega
    rw [e, h _ _ (by omega) (by omega), sp_wv w i j _ _ (by omega)]
    have := lt5 (k / 5) (by omega)
    have := lt5 (k % 5) (by omega)
    exact ha _ (by omega)
  · have e : ch_W (sp_w w i j) r = ch_W w (sp_s i j r) := by
      unfold ch_W
      rw [show 5 * r = 5 * r + 0 from rfl, sp_wv w i j r 0 (by decide), show 5 * r + 0 + 1 = 5 * r + 1 from rfl, show 5 * r + 0 + 2 = 5 * r + 2 from rfl, show 5 * r + 0 + 3 = 5 * r + 3 from rfl, show 5 * r + 0 + 4 = 5 * r + 4 from rfl, sp_wv w i j r 1 (by decide), sp_wv w i j r 2 (by decide), sp_wv w i j r 3 (by decide), sp_wv w i j r 4 (by decide)]
      exact sp_perm (fun s => w (5 * sp_s i j r + s)) (by omega) (by omega)
    rw [e]
    by_cases q : r = j
    · rw [q, pk_us]
      have : sp_s i j j = i := by
        unfold sp_s
        by_cases z : j = i
        · rw [if_pos z, z]
        · rw [if_neg z, if_pos rfl]
      rw [this]; exact hsu i (by omega)
    · rw [pk_un q]
      by_cases q2 : r = i
      · rw [q2, pk_us]
        have : sp_s i j i = j := by unfold sp_s; rw [if_pos rfl]
        rw [this]; exact hsu j (by omega)
      · rw [pk_un q2]
        have : sp_s i j r = r := by unfold sp_s; rw [if_neg q2, if_neg q]
        rw [this]; exact hsu r hr
section
variable {n : Nat} {w : Nat → Nat} {a su : Nat → Int32} {sy ov un : Nat → Int64} {fa fb : Int64} {up dn : Nat → Int64} {op : Nat → Int32} {tp bt nt nb : Nat → Int64}
theorem xm_exch {post : SX → Prop} {st : Int32} {p q : Int32} {k l : Nat} (hp : p = nI k) (hq : q = nI l) (hk : k < 25) (hl : l < 25) (h : post (st, sp_ex a k l, su, sy, ov, un)) : wpX_exchangeWeights post (st, a, su, sy, ov, un) p q := by
  subst hp hq
  have e1 : (nI k).toNatClampNeg = k := nI_clamp (by omega)
  have e2 : (nI l).toNatClampNeg = l := nI_clamp (by omega)
  have v1 : vp_in (nI k) 25 := vp_in_nI hk (by decide)
  have v2 : vp_in (nI l) 25 := vp_in_nI hl (by decide)
  unfold wpX_exchangeWeights
  dsimp only
  rw [e1, e2]
  exact ⟨v1, nm_e ⟨v2, v1, nm_e ⟨v2, nm_e h⟩⟩⟩
theorem ym_exchW {post : SY → Prop} {st : Int32} {p q : Int32} {k l : Nat} (hp : p = nI k) (hq : q = nI l) (hk : k < 25) (hl : l < 25) (h : post (st, fa, fb, sp_ex a k l, up, dn, op, tp, bt, nt, nb)) : wpY_exchange post (st, fa, fb, a, up, dn, op, tp, bt, nt, nb) p q := by
  subst hp hq
  have e1 : (nI k).toNatClampNeg = k := nI_clamp (by omega)
  have e2 : (nI l).toNatClampNeg = l := nI_clamp (by omega)
  have v1 : vp_in (nI k) 25 := vp_in_nI hk (by decide)
  have v2 : vp_in (nI l) 25 := vp_in_nI hl (by decide)
  unfold wpY_exchange
  dsimp only
  rw [e1, e2]
  exact ⟨v1, nm_e ⟨v2, v1, nm_e ⟨v2, nm_e h⟩⟩⟩
theorem xm_swapL {post : Int32 → SX → Prop} (h5 : n ≤ 5) {i j : Nat} (hi : i < n) (hj : j < n) (h : post 1 (nI n, sp_c (sp_r a i j n) i j n, upd (upd su i (su j)) j (su i), sy, ov, un)) : ∃ f, wX_swap_20 post (nI i) (nI j) f 0 (nI n) a su sy ov un := by
  have e1 : (nI i).toNatClampNeg = i := nI_clamp (by omega)
  have e2 : (nI j).toNatClampNeg = j := nI_clamp (by omega)
  have v1 : vp_in (nI i) 5 := vp_in_nI (by omega) (by decide)
  have v2 : vp_in (nI j) 5 := vp_in_nI (by omega) (by decide)
  refine loop_0 (fun f k (s : Nat → Int32) => wX_swap_20 post (nI i) (nI j) f (nI k) (nI n) s su sy ov un) (fun k s => s = sp_r a i j k) n a rfl ?_ ?_
  · rintro f s rfl
    refine br_t (nI_le (Nat.le_refl n) (by omega)) ?_
    refine loop_0 (fun f k (s : Nat → Int32) => wX_swap_50 post (nI i) (nI j) f (nI k) (nI n) s su sy ov un) (fun k s => s = sp_c (sp_r a i j n) i j k) n (sp_r a i j n) rfl ?_ ?_
    · rintro f s rfl
      refine br_t (nI_le (Nat.le_refl n) (by omega)) ?_
      rw [e1, e2]
      exact ⟨v1, nm_e ⟨v2, v1, nm_e ⟨v2, nm_e h⟩⟩⟩
    · rintro f k s hk rfl ih
      refine br_f (nI_ge hk (by omega)) (xm_exch (ix_5 k i) (ix_5 k j) (by omega) (by omega) ?_)
      dsimp only
      exact nm_r (nI_1 k) (ih _ rfl)
  · rintro f k s hk rfl ih
    refine br_f (nI_ge hk (by omega)) (xm_exch (ix_5 i k) (ix_5 j k) (by omega) (by omega) ?_)
    dsimp only
    exact nm_r (nI_1 k) (ih _ rfl)
theorem ym_swapL {post : Int32 → SY → Prop} (h5 : n ≤ 5) {i j : Nat} (hi : i < n) (hj : j < n) (h : post 1 (nI n, fa, fb, if i = j then a else sp_c (sp_r a i j 5) i j 5, up, dn, op, tp, bt, nt, nb)) : ∃ f, wY_swap_20 post (nI i) (nI j) f 0 (nI n) fa fb a up dn op tp bt nt nb := by
  by_cases e : i = j
  · rw [if_pos e] at h
    have e' : nI i = nI j := by rw [e]
    exact ⟨1, br_f (by decide) (br_t e' ⟨1, br_f (by decide) (br_t e' h)⟩)⟩
  · rw [if_neg e] at h
    have e' : ¬ nI i = nI j := fun z => e ((nI_eq (by omega) (by omega)).mp z)
    refine loop_0 (fun f k (s : Nat → Int32) => wY_swap_20 post (nI i) (nI j) f (nI k) (nI n) fa fb s up dn op tp bt nt nb) (fun k s => s = sp_r a i j k) 5 a rfl ?_ ?_
    · rintro f s rfl
      refine br_t (by decide) ?_
      refine loop_0 (fun f k (s : Nat → Int32) => wY_swap_52 post (nI i) (nI j) f (nI k) (nI n) fa fb s up dn op tp bt nt nb) (fun k s => s = sp_c (sp_r a i j 5) i j k) 5 (sp_r a i j 5) rfl ?_ ?_
      · rintro f s rfl
        exact br_t (by decide) h
      · rintro f k s hk rfl ih
        refine br_f (nI_ge (b := 5) hk (by decide)) (br_f e' (ym_exchW (ix_5' k i) (ix_5' k j) (by omega) (by omega) ?_))
        dsimp only
        exact nm_r (nI_1 k) (ih _ rfl)
    · rintro f k s hk rfl ih
      refine br_f (nI_ge (b := 5) hk (by decide)) (br_f e' (ym_exchW (ix_5' i k) (ix_5' j k) (by omega) (by omega) ?_))
      dsimp only
      exact nm_r (nI_1 k) (ih _ rfl)
end
theorem i_vc_swap {k : Nat} {u : SX} {v : SY} (I : i_Rel k u v) (hk : k + 5 ≤ 2561) (v1 : Int32) (v2 : Int32) : wpX_swap (fun r u' => wpY_swap (fun r' v' => r' = r ∧ i_Rel (k + 5) u' v') v v1 v2) u v1 v2 := by
  have J := i_up I
  obtain ⟨n, w, a, su, sy, ov, un, fa, fb, up, dn, op, tp, bt, nt, nb, rfl, rfl, c⟩ := I
  have h5 := c.1.2.1
  unfold wpX_swap wpY_swap
  dsimp only
  by_cases h1 : ∃ i, i < n ∧ v1 = nI i
  · obtain ⟨i, hi, rfl⟩ := h1
    by_cases h2 : ∃ j, j < n ∧ v2 = nI j
    · obtain ⟨j, hj, rfl⟩ := h2
      have A := sp_all (cr_XY c) hi hj (k := n) (Nat.le_refl n) h5
      have B := sp_all (cr_XY c) hi hj (k := 5) h5 (Nat.le_refl 5)
      have same : (if i = j then a else sp_c (sp_r a i j 5) i j 5) = sp_c (sp_r a i j n) i j n := by
        funext x
        rcases Nat.lt_or_ge x 25 with q | q
        · have e : x = 5 * (x / 5) + x % 5 := by omega
          rw [e, A.1 _ _ (by omega) (by omega)]
          split
          · rename_i z
            have id : ∀ r, sp_s i j r = r := by
              intro r
              unfold sp_s
              split
              · omega
              · split <;> omega
            rw [id, id]
          · exact B.1 _ _ (by omega) (by omega)
        · rw [A.2 x q]
          split
          · rfl
          · exact B.2 x q
      refine xm_st1 h5 hi (br_f (by decide) (xm_st1 h5 hj (br_f (by decide) (xm_swapL h5 hi hj ?_))))
      refine ym_st1 h5 hi (br_f (by decide) (ym_st1 h5 hj (br_f (by decide) (ym_swapL h5 hi hj ⟨rfl, ?_⟩))))
      rw [same]
      exact ir_mk (k + 5) (sp_cr c hi hj A.1) _ _ _ _ _ _ _ _ _ _ _ _
    · exact xm_st1 h5 hi (br_f (by decide) (xm_st0 h5 h2 (br_t rfl (ym_st1 h5 hi (br_f (by decide) (ym_st0 h5 h2 (br_t rfl ⟨rfl, J⟩)))))))
  · exact xm_st0 h5 h1 (br_t rfl (ym_st0 h5 h1 (br_t rfl ⟨rfl, J⟩)))
