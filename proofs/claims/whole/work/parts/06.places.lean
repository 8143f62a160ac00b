/-! gapAt, size, equal, covers -/
def pz_gp (t : Nat → Int32) (p : Nat) : Nat → Int32
  | 0 => 0
  | i + 1 => if pz_F t p i = 7 then pz_gp t p i + 1 else pz_gp t p i
def pz_hit (t : Nat → Int32) (p : Nat) (k : Int32) (i : Nat) : Prop := pz_F t p i = 7 ∧ pz_gp t p i = k
def pz_G (t : Nat → Int32) (L : Nat → Nat) (p n : Nat) (k r : Int32) : Prop := (r = -1 ∧ ∀ i, i < L p → ¬ pz_hit t p k i) ∨ ∃ i, i < L p ∧ pz_hit t p k i ∧ (∀ j, j < i → ¬ pz_hit t p k j) ∧ r = pz_ov (pz_lz t L p 4 n i)
theorem pz_G_ex (t : Nat → Int32) (L : Nat → Nat) (p n : Nat) (k : Int32) : ∃ r, pz_G t L p n k r := by
  by_cases h : ∃ i, i < L p ∧ pz_hit t p k i
  · obtain ⟨i, hi, hl⟩ := pk_least _ h
    exact ⟨_, Or.inr ⟨i, hi.1, hi.2, fun j h1 h2 => hl j h1 ⟨by omega, h2⟩, rfl⟩⟩
  · exact ⟨-1, Or.inl ⟨rfl, fun i hi w => h ⟨i, hi, w⟩⟩⟩
theorem pz_G_no {t : Nat → Int32} {L : Nat → Nat} {p n : Nat} {k r : Int32} (h : pz_G t L p n k r) (hj : ∀ j, j < L p → ¬ pz_hit t p k j) : r = -1 := by
  rcases h with h | ⟨i, h1, h2, _, _⟩
  · exact h.1
  · exact absurd h2 (hj i h1)
theorem pz_G_yes {t : Nat → Int32} {L : Nat → Nat} {p n i : Nat} {k r : Int32} (h : pz_G t L p n k r) (hi : i < L p) (hh : pz_hit t p k i) (hj : ∀ j, j < i → ¬ pz_hit t p k j) : r = pz_ov (pz_lz t L p 4 n i) := by
  rcases h with h | ⟨m, h1, h2, h3, h4⟩
  · exact absurd hh (h.2 i hi)
  · rcases Nat.lt_trichotomy m i with w | w | w
    · exact absurd h2 (hj m w)
    · rw [h4, w]
    · exact absurd hh (h3 i w)
theorem pz_less {P : Nat → Prop} {i : Nat} (h : ∀ j, j < i → P j) (hi : P i) : ∀ j, j < i + 1 → P j := by
  intro j hj
  rcases Nat.lt_or_ge j i with w | w
  · exact h j w
  · rw [show j = i by omega]; exact hi
section
variable {c g t : Nat → Int32} {L : Nat → Nat}
theorem pz_X_gap (H : pz_R c g t L) {p n : Nat} (hp : p < 5) (hn : n ≤ L 4) (hz : ¬ pz_lz t L p 4 n (L p) = none) {k r : Int32} (hG : pz_G t L p n k r) {post : Int32 → Prop} (h : post r) : ∃ f, wX_gapAt_28 post (nI p) k c g f 0 (nI n) 0 := by
  have hL := H.2.2.1
  have hP := pz_L25 H hp
  have key : ∀ d i f a, i + d = L p → d < f → pz_lz t L p 4 n i = some a → (∀ j, j < i → ¬ pz_hit t p k j) → wX_gapAt_28 post (nI p) k c g f (pz_gp t p i) (nI a) (nI i) := by
    intro d
    induction d with
    | zero =>
      intro i f a hi hf ha hj
      obtain ⟨f, rfl⟩ : ∃ m, f = m + 1 := ⟨f - 1, by omega⟩
      have hi' : i = L p := by omega
      subst hi'
      have hle : g (nI p).toNatClampNeg ≤ nI (L p) := by rw [pz_gl H hp]; exact nI_le (Nat.le_refl _) (by omega)
      rw [pz_G_no hG hj] at h
      exact And.intro (vp_in_nI hp (by decide)) (br_t hle h)
    | succ d ih =>
      intro i f a hi hf ha hj
      obtain ⟨f, rfl⟩ : ∃ m, f = m + 1 := ⟨f - 1, by omega⟩
      have hle : ¬ g (nI p).toNatClampNeg ≤ nI i := by rw [pz_gl H hp]; exact nI_ge (by omega) (by omega)
      have haL := pz_lz_le hn i a ha
      refine And.intro (vp_in_nI hp (by decide)) (br_f hle (pz_tok H hp (by omega) ?_))
      by_cases h7 : pz_F t p i = 7
      · refine br_t h7 ?_
        by_cases hk : pz_gp t p i = k
        · rw [pz_G_yes hG (by omega) ⟨h7, hk⟩ hj, ha] at h
          exact br_t hk h
        · refine br_f hk (nm_e (pz_X_end H (l := 4) (by decide) (by omega) ?_))
          have := ih (i + 1) f _ (by omega) (by omega) (pz_lz_g ha h7) (pz_less hj (fun w => hk w.2))
          unfold pz_gp at this
          rw [if_pos h7, ← nI_1] at this
          exact nm_e this
      · by_cases he : a < L 4 ∧ pz_F t 4 a = pz_F t p i
        · have := ih (i + 1) f _ (by omega) (by omega) (pz_lz_s ha h7 he.1 he.2) (pz_less hj (fun w => h7 w.1))
          unfold pz_gp at this
          rw [if_neg h7, ← nI_1, ← nI_1] at this
          exact br_f h7 (nm_e (nm_e this))
        · have := pz_lz_n (pz_lz_f ha h7 he) d
          rw [show i + 1 + d = L p by omega] at this
          exact absurd this hz
  exact ⟨L p + 1, key (L p) 0 _ n (by omega) (by omega) rfl (fun j w => absurd w (by omega))⟩
theorem pz_Y_gap (H : pz_R c g t L) {p n : Nat} (hp : p < 5) (hn : n ≤ L 4) {k r : Int32} (hG : pz_G t L p n k r) {post : Int32 → Prop} (h : post r) : ∃ f, wY_gapAt_25 post (nI p) (nI n) k g t f 0 0 := by
  have hP := pz_L25 H hp
  have key : ∀ d i f, i + d = L p → d < f → (∀ j, j < i → ¬ pz_hit t p k j) → wY_gapAt_25 post (nI p) (nI n) k g t f (pz_gp t p i) (nI i) := by
    intro d
    induction d with
    | zero =>
      intro i f hi hf hj
      obtain ⟨f, rfl⟩ : ∃ m, f = m + 1 := ⟨f - 1, by omega⟩
      have hi' : i = L p := by omega
      subst hi'
      have hle : g (nI p).toNatClampNeg ≤ nI (L p) := by rw [pz_gl H hp]; exact nI_le (Nat.le_refl _) (by omega)
      rw [pz_G_no hG hj] at h
      exact And.intro (vp_in_nI hp (by decide)) (br_t hle h)
    | succ d ih =>
      intro i f hi hf hj
      obtain ⟨f, rfl⟩ : ∃ m, f = m + 1 := ⟨f - 1, by omega⟩
      have hle : ¬ g (nI p).toNatClampNeg ≤ nI i := by rw [pz_gl H hp]; exact nI_ge (by omega) (by omega)
      refine And.intro (vp_in_nI hp (by decide)) (br_f hle (And.intro (pz_inY H hp (by omega)) ?_))
      rw [pz_tY H hp (by omega)]
      by_cases h7 : pz_F t p i = 7
      · refine br_t h7 ?_
        by_cases hk : pz_gp t p i = k
        · rw [pz_G_yes hG (by omega) ⟨h7, hk⟩ hj] at h
          exact br_t hk (pz_Y_lies H hp (l := 4) (by decide) hn (by omega) h)
        · have := ih (i + 1) f (by omega) (by omega) (pz_less hj (fun w => hk w.2))
          unfold pz_gp at this
          rw [if_pos h7, ← nI_1] at this
          exact br_f hk (nm_e (nm_e this))
      · have := ih (i + 1) f (by omega) (by omega) (pz_less hj (fun w => h7 w.1))
        unfold pz_gp at this
        rw [if_neg h7, ← nI_1] at this
        exact br_f h7 (nm_e this)
  exact ⟨L p + 1, key (L p) 0 _ (by omega) (by omega) (fun j w => absurd w (by omega))⟩
theorem pz_fa_yes {p : Nat} {x : Int32} (h : ¬ pz_fa t L p x = 0) : ∃ n, n < L 4 ∧ x = nI n ∧ ¬ pz_lz t L p 4 n (L p) = none := by
  by_cases z : x < 0
  · unfold pz_fa at h
    rw [if_pos z] at h
    exact absurd rfl h
  · obtain ⟨n, hn, rfl⟩ := nI_of z
    rw [pz_fa_n hn] at h
    unfold pz_fi at h
    by_cases w : n < L 4 ∧ pz_cm t L p = 1 ∧ pz_cm t L 4 = 1
    · rw [if_pos w] at h
      exact ⟨n, w.1, rfl, fun e => h (by rw [e]; rfl)⟩
    · rw [if_neg w] at h
      exact absurd rfl h
/-! size -/
def pz_sz (t : Nat → Int32) (L : Nat → Nat) (x : Int32) : Int32 := if pz_nd t L x = 0 then -1 else nI (pz_end t L 4 x.toNatClampNeg - x.toNatClampNeg)
theorem pz_nd_c (t : Nat → Int32) (L : Nat → Nat) (x : Int32) : pz_nd t L x = 0 ∨ ∃ n, n < L 4 ∧ x = nI n ∧ n < 2 ^ 31 ∧ pz_cm t L 4 = 1 ∧ pz_nd t L x = 1 := by
  by_cases z : x < 0
  · exact Or.inl (if_pos z)
  · obtain ⟨n, hn, rfl⟩ := nI_of z
    rw [pz_nd_n hn]
    by_cases w : pz_cm t L 4 = 1 ∧ n < L 4
    · exact Or.inr ⟨n, w.2, rfl, hn, w.1, if_pos w⟩
    · exact Or.inl (if_neg w)
theorem pz_sz_n {n : Nat} (hn : n < 2 ^ 31) (hc : pz_cm t L 4 = 1) (hL : n < L 4) : pz_sz t L (nI n) = nI (pz_end t L 4 n - n) := by
  unfold pz_sz
  rw [pz_nd_n hn, pz_nn1 hc hL, if_neg (by decide), nI_clamp hn]
theorem pz_Y_size (H : pz_R c g t L) (x : Int32) {post : Int32 → Prop} (h : post (pz_sz t L x)) : wpY_size post (g, t) x := by
  have hL := H.2.2.1
  unfold wpY_size
  dsimp only
  refine pz_Y_node H x ?_
  rcases pz_nd_c t L x with z | ⟨n, h1, rfl, hn, hc, h2⟩
  · unfold pz_sz at h
    rw [if_pos z] at h
    exact br_t z h
  · rw [pz_sz_n hn hc h1, ← pk_sub (pz_end_b (by omega)).1] at h
    exact br_f (by rw [h2]; decide) (pz_Y_end H (l := 4) (by decide) (by omega) h)
theorem pz_X_size (H : pz_R c g t L) (x : Int32) {post : Int32 → Prop} (h : post (pz_sz t L x)) : wpX_size post (c, g) x := by
  have hL := H.2.2.1
  unfold wpX_size
  dsimp only
  refine pz_X_whole H ?_
  rcases pz_cm01 t L 4 with hc | hc
  · have e : pz_nd t L x = 0 := by
      rcases pz_nd_c t L x with z | ⟨n, h1, rfl, hn, hc', h2⟩
      · exact z
      · rw [hc] at hc'; exact absurd hc' (by decide)
    unfold pz_sz at h
    rw [if_pos e] at h
    exact br_t hc h
  · refine br_f (by rw [hc]; decide) ?_
    unfold wpX_isNode
    dsimp only
    by_cases z : x < 0
    · unfold pz_sz at h
      rw [if_pos (show pz_nd t L x = 0 from if_pos z)] at h
      exact br_t z (br_t rfl h)
    · obtain ⟨n, hn, rfl⟩ := nI_of z
      refine br_f z (And.intro (vp_in_nI (n := 4) (by decide) (by decide)) ?_)
      have e4 : g (4 : Int32).toNatClampNeg = nI (L 4) := pz_gl H (l := 4) (by decide)
      rw [e4]
      by_cases w : n < L 4
      · rw [pz_sz_n hn hc w, ← pk_sub (pz_end_b (by omega)).1] at h
        exact br_f (nI_ge w (by omega)) (br_f (by decide) (pz_X_end H (l := 4) (by decide) (by omega) h))
      · unfold pz_sz at h
        rw [pz_nd_n hn, if_pos (pz_nn0 (Or.inr (by omega)))] at h
        exact br_t (nI_le (by omega) hn) (br_t rfl h)
/-! equal -/
def pz_same (t : Nat → Int32) (m n k : Nat) : Prop := ∀ i, i < k → pz_F t 4 (m + i) = pz_F t 4 (n + i)
theorem pz_X_equal (H : pz_R c g t L) {m n s : Nat} (hm : m + s ≤ L 4) (hn : n + s ≤ L 4) {post : Int32 → Prop} (h1 : pz_same t m n s → post 1) (h0 : ¬ pz_same t m n s → post 0) : ∃ f, wX_equal_25 post (nI m) (nI n) (nI s) c g f 0 := by
  have hL := H.2.2.1
  have key : ∀ d k f, k + d = s → d < f → pz_same t m n k → wX_equal_25 post (nI m) (nI n) (nI s) c g f (nI k) := by
    intro d
    induction d with
    | zero =>
      intro k f hk hf hs
      obtain ⟨f, rfl⟩ : ∃ m, f = m + 1 := ⟨f - 1, by omega⟩
      have hk' : k = s := by omega
      subst hk'
      exact br_t (nI_le (Nat.le_refl _) (by omega)) (h1 hs)
    | succ d ih =>
      intro k f hk hf hs
      obtain ⟨f, rfl⟩ : ∃ m, f = m + 1 := ⟨f - 1, by omega⟩
      refine br_f (nI_ge (by omega) (by omega)) ?_
      rw [nI_add, nI_add]
      refine pz_tok H (l := 4) (by decide) (by omega) (pz_tok H (l := 4) (by decide) (by omega) ?_)
      by_cases e : pz_F t 4 (m + k) = pz_F t 4 (n + k)
      · have := ih (k + 1) f (by omega) (by omega) (pz_less hs e)
        rw [← nI_1] at this
        exact br_t e (nm_e this)
      · exact br_f e (h0 (fun w => e (w k (by omega))))
  exact ⟨s + 1, key s 0 _ (by omega) (by omega) (fun j w => absurd w (by omega))⟩
theorem pz_Y_eq0 {x1 x2 : Int32} {post : Int32 → Prop} (h : post 0) (f : Nat) (k : Int32) : wY_equal_38 post x1 x2 g t (f + 1) 0 k := by
  by_cases z : 25 ≤ k
  · exact br_t z ⟨rfl, h⟩
  · exact br_f z (br_t rfl ⟨rfl, h⟩)
theorem pz_eY4 (m k : Nat) : (100 + nI m) + nI k = nI (25 * 4 + (m + k)) := by
  rw [show (100 : Int32) = nI 100 from rfl, nI_add, nI_add, Nat.add_assoc]
theorem pz_Y_equal (H : pz_R c g t L) {m n s : Nat} (hz : pz_sz t L (nI m) = nI s) (hm : m + s ≤ L 4) (hn : n + s ≤ L 4) {post : Int32 → Prop} (h1 : pz_same t m n s → post 1) (h0 : ¬ pz_same t m n s → post 0) : ∃ f, wY_equal_38 post (nI m) (nI n) g t f 1 0 := by
  have hL := H.2.2.1
  have key : ∀ d k f, k + d = 25 → d + 1 < f → (∀ i, i < k → i < s → pz_F t 4 (m + i) = pz_F t 4 (n + i)) → wY_equal_38 post (nI m) (nI n) g t f 1 (nI k) := by
    intro d
    induction d with
    | zero =>
      intro k f hk hf hs
      obtain ⟨f, rfl⟩ : ∃ m, f = m + 1 := ⟨f - 1, by omega⟩
      have hk' : k = 25 := by omega
      subst hk'
      exact br_t (nI_le (a := 25) (b := 25) (by decide) (by decide)) ⟨rfl, h1 (fun i hi => hs i (by omega) hi)⟩
    | succ d ih =>
      intro k f hk hf hs
      obtain ⟨f, rfl⟩ : ∃ m, f = m + 1 := ⟨f - 1, by omega⟩
      refine br_f (nI_ge (b := 25) (by omega) (by decide)) (br_f (by decide) (pz_Y_size H (nI m) ?_))
      rw [hz]
      by_cases z : s ≤ k
      · have := ih (k + 1) f (by omega) (by omega) (fun i _ hi => hs i (by omega) hi)
        rw [← nI_1] at this
        exact br_t (nI_le z (by omega)) (nm_e this)
      · refine br_f (nI_ge (by omega) (by omega)) ?_
        rw [pz_eY4, pz_eY4, nI_clamp (by omega), nI_clamp (by omega)]
        refine And.intro (vp_in_nI (by omega) (by decide)) (And.intro (vp_in_nI (by omega) (by decide)) ?_)
        by_cases e : pz_F t 4 (m + k) = pz_F t 4 (n + k)
        · have := ih (k + 1) f (by omega) (by omega) (pz_less (fun i a b => hs i a b) (fun _ => e))
          rw [← nI_1] at this
          exact br_t e (nm_e this)
        · obtain ⟨f, rfl⟩ : ∃ m, f = m + 1 := ⟨f - 1, by omega⟩
          exact br_f e (nm_e (pz_Y_eq0 (h0 (fun w => e (w k (by omega)))) f _))
  exact ⟨27, key 25 0 27 rfl (by decide) (fun j w => absurd w (by omega))⟩
end
theorem i_vc_gapAt {k : Nat} {u : SX} {v : SY} (I : i_Rel k u v) (hk : k + 4 ≤ 2048) (v1 : Int32) (v2 : Int32) (v3 : Int32) : wpX_gapAt (fun r => wpY_gapAt (fun r' => r' = r ∧ i_Rel (k + 4) u v) v v1 v2 v3) u v1 v2 v3 := by
  obtain ⟨c, g⟩ := u
  obtain ⟨g', t⟩ := v
  obtain ⟨e, L, H⟩ := I
  cases e
  unfold wpX_gapAt wpY_gapAt
  dsimp only
  rcases pz_pat v1 with hp | ⟨p, hp, rfl⟩
  · exact pz_X_pat0 hp (br_t rfl (pz_Y_pat0 hp (br_t rfl ⟨rfl, rfl, L, H⟩)))
  · refine pz_X_pat1 hp (br_f (by decide) (pz_X_fa H (by omega) v2 ?_))
    by_cases z : pz_fa t L p v2 = 0
    · exact br_t z (pz_Y_pat1 hp (br_f (by decide) (pz_Y_fa H (by omega) v2 (br_t z ⟨rfl, rfl, L, H⟩))))
    · obtain ⟨n, hn, rfl, hz⟩ := pz_fa_yes z
      obtain ⟨r, hG⟩ := pz_G_ex t L p n v3
      exact br_f z (pz_X_gap H (by omega) (by omega) hz hG (pz_Y_pat1 hp (br_f (by decide) (pz_Y_fa H (by omega) (nI n) (br_f z (pz_Y_gap H (by omega) (by omega) hG ⟨rfl, rfl, L, H⟩))))))
theorem i_vc_size {k : Nat} {u : SX} {v : SY} (I : i_Rel k u v) (hk : k + 4 ≤ 2048) (v1 : Int32) : wpX_size (fun r => wpY_size (fun r' => r' = r ∧ i_Rel (k + 4) u v) v v1) u v1 := by
  obtain ⟨c, g⟩ := u
  obtain ⟨g', t⟩ := v
  obtain ⟨e, L, H⟩ := I
  cases e
  exact pz_X_size H v1 (pz_Y_size H v1 ⟨rfl, rfl, L, H⟩)
theorem pz_nIm : ∀ s, s < 26 → ¬ nI s = -1 := by decide +kernel
theorem i_vc_equal {k : Nat} {u : SX} {v : SY} (I : i_Rel k u v) (hk : k + 4 ≤ 2048) (v1 : Int32) (v2 : Int32) : wpX_equal (fun r => wpY_equal (fun r' => r' = r ∧ i_Rel (k + 4) u v) v v1 v2) u v1 v2 := by
  obtain ⟨c, g⟩ := u
  obtain ⟨g', t⟩ := v
  obtain ⟨e, L, H⟩ := I
  cases e
  have hL := H.2.2.1
  unfold wpX_equal wpY_equal
  dsimp only
  refine pz_X_size H v1 ?_
  rcases pz_nd_c t L v1 with z1 | ⟨m, hm, rfl, hm31, hc, d1⟩
  · exact br_t (if_pos z1) (pz_Y_node H v1 (br_t z1 ⟨1, pz_Y_eq0 ⟨rfl, rfl, L, H⟩ 0 0⟩))
  · have d1' : ¬ pz_nd t L (nI m) = 0 := by rw [d1]; decide
    have bm := pz_end_b (t := t) (L := L) (l := 4) (e := m) (by omega)
    have s1 := pz_sz_n hm31 hc hm
    refine br_f (by rw [s1]; exact pz_nIm _ (by omega)) (pz_X_size H v2 ?_)
    rcases pz_nd_c t L v2 with z2 | ⟨n, hn, rfl, hn31, _, d2⟩
    · have e2 : pz_sz t L v2 = -1 := if_pos z2
      have ne : ¬ pz_sz t L (nI m) = pz_sz t L v2 := by rw [e2, s1]; exact pz_nIm _ (by omega)
      exact br_f ne (pz_Y_node H (nI m) (br_f d1' (pz_Y_node H v2 (br_t z2 ⟨1, pz_Y_eq0 ⟨rfl, rfl, L, H⟩ 0 0⟩))))
    · have d2' : ¬ pz_nd t L (nI n) = 0 := by rw [d2]; decide
      have bn := pz_end_b (t := t) (L := L) (l := 4) (e := n) (by omega)
      have s2 := pz_sz_n hn31 hc hn
      by_cases es : pz_end t L 4 m - m = pz_end t L 4 n - n
      · have e12 : pz_sz t L (nI m) = pz_sz t L (nI n) := by rw [s1, s2, es]
        have toY : ∀ b : Int32, (pz_same t m n (pz_end t L 4 m - m) → b = 1) → (¬ pz_same t m n (pz_end t L 4 m - m) → b = 0) → wpY_node (fun r_1 => (((r_1 = 0 → (∃ n38 : Nat, wY_equal_38 (fun r' => r' = b ∧ i_Rel (k + 4) (c, g) (g, t)) (nI m) (nI n) g t n38 0 0)) ∧ (¬ r_1 = 0 → (wpY_node (fun r_19 => (((r_19 = 0 → (∃ n38 : Nat, wY_equal_38 (fun r' => r' = b ∧ i_Rel (k + 4) (c, g) (g, t)) (nI m) (nI n) g t n38 0 0)) ∧ (¬ r_19 = 0 → (wpY_size (fun r_23 => (wpY_size (fun r_26 => (((r_23 = r_26 → (∃ n38 : Nat, wY_equal_38 (fun r' => r' = b ∧ i_Rel (k + 4) (c, g) (g, t)) (nI m) (nI n) g t n38 1 0)) ∧ (¬ r_23 = r_26 → (∃ n38 : Nat, wY_equal_38 (fun r' => r' = b ∧ i_Rel (k + 4) (c, g) (g, t)) (nI m) (nI n) g t n38 0 0))))) (g, t) (nI n))) (g, t) (nI m)))))) (g, t) (nI n)))))) (g, t) (nI m) := by
          intro b hb1 hb0
          exact pz_Y_node H (nI m) (br_f d1' (pz_Y_node H (nI n) (br_f d2' (pz_Y_size H (nI m) (pz_Y_size H (nI n) (br_t e12 (pz_Y_equal H s1 (by omega) (by omega) (fun w => ⟨(hb1 w).symm, rfl, L, H⟩) (fun w => ⟨(hb0 w).symm, rfl, L, H⟩))))))))
        refine br_t e12 ?_
        rw [s1]
        exact pz_X_equal H (by omega) (by omega) (fun w => toY 1 (fun _ => rfl) (fun w' => absurd w w')) (fun w => toY 0 (fun w' => absurd w' w) (fun _ => rfl))
      · have ne : ¬ pz_sz t L (nI m) = pz_sz t L (nI n) := by rw [s1, s2, nI_eq (by omega) (by omega)]; exact es
        exact br_f ne (pz_Y_node H (nI m) (br_f d1' (pz_Y_node H (nI n) (br_f d2' (pz_Y_size H (nI m) (pz_Y_size H (nI n) (br_f ne ⟨1, pz_Y_eq0 ⟨rfl, rfl, L, H⟩ 0 0⟩)))))))
theorem pz_bv01 (o : Option Nat) : pz_bv o = 0 ∨ pz_bv o = 1 := by
  cases o
  · exact Or.inl rfl
  · exact Or.inr rfl
theorem i_vc_covers {k : Nat} {u : SX} {v : SY} (I : i_Rel k u v) (hk : k + 4 ≤ 2048) (v1 : Int32) (v2 : Int32) : wpX_covers (fun r => wpY_covers (fun r' => r' = r ∧ i_Rel (k + 4) u v) v v1 v2) u v1 v2 := by
  obtain ⟨c, g⟩ := u
  obtain ⟨g', t⟩ := v
  obtain ⟨e, L, H⟩ := I
  cases e
  replace H : pz_R c g t L := H
  unfold wpX_covers wpY_covers wpY_complete
  dsimp only
  rcases pz_pat v1 with hp | ⟨p, hp, rfl⟩
  · exact pz_X_pat0 hp (br_t rfl (pz_Y_pat0 hp (br_t rfl (br_t rfl ⟨rfl, rfl, L, H⟩))))
  refine pz_X_pat1 hp (br_f (by decide) ?_)
  rcases pz_pat v2 with hq | ⟨q, hq, rfl⟩
  · refine pz_X_pat0 hq (br_t rfl (pz_Y_pat1 hp (br_f (by decide) (pz_Y_done H (by omega) ?_))))
    rcases pz_cm01 t L p with h | h
    · exact br_t h (br_t rfl ⟨rfl, rfl, L, H⟩)
    · exact br_f (by rw [h]; decide) (br_f (by decide) (pz_Y_pat0 hq (br_t rfl (br_t rfl ⟨rfl, rfl, L, H⟩))))
  · refine pz_X_pat1 hq (br_f (by decide) (pz_X_fits H (n := 0) (by omega) (l := q) (by omega) (by omega) ?_))
    have hq25 := pz_L25 H (l := q) (by omega)
    rcases pz_cm01 t L p with h | h
    · have e : pz_fi t L p q 0 = 0 := if_neg (fun w => by rw [h] at w; exact absurd w.2.1 (by decide))
      exact br_t e (pz_Y_pat1 hp (br_f (by decide) (pz_Y_done H (by omega) (br_t h (br_t rfl ⟨rfl, rfl, L, H⟩)))))
    rcases pz_cm01 t L q with h' | h'
    · have e : pz_fi t L p q 0 = 0 := if_neg (fun w => by rw [h'] at w; exact absurd w.2.2 (by decide))
      exact br_t e (pz_Y_pat1 hp (br_f (by decide) (pz_Y_done H (by omega) (br_f (by rw [h]; decide) (br_f (by decide) (pz_Y_pat1 hq (br_f (by decide) (pz_Y_done H (by omega) (br_t h' (br_t rfl ⟨rfl, rfl, L, H⟩))))))))))
    · have pos : 0 < L q := by
        rcases Nat.eq_zero_or_pos (L q) with z | z
        · unfold pz_cm at h'
          rw [z, show pz_ms (pz_F t q) 0 = 1 from rfl] at h'
          exact absurd h' (by decide)
        · exact z
      have e : pz_fi t L p q 0 = pz_bv (pz_lz t L p q 0 (L p)) := if_pos ⟨pos, h, h'⟩
      have toY : ∀ post : Int32 → Prop, post (pz_bv (pz_lz t L p q 0 (L p))) → wpY_lies (fun r_10 => (((r_10 < 0 → (post 0)) ∧ (¬ r_10 < 0 → (post 1))))) (g, t) (nI p) (nI q) 0 (g (nI p).toNatClampNeg) := by
        intro post hpost
        rw [pz_gl H (l := p) (by omega)]
        exact pz_Y_lies H (n := 0) (by omega) (l := q) (by omega) (by omega) (Nat.le_refl _) (pz_ov_lt (fun a ha => by have := pz_lz_le (l := q) (by omega) _ a ha; omega) hpost)
      rw [e]
      rcases pz_bv01 (pz_lz t L p q 0 (L p)) with b | b
      · exact br_t b (pz_Y_pat1 hp (br_f (by decide) (pz_Y_done H (by omega) (br_f (by rw [h]; decide) (br_f (by decide) (pz_Y_pat1 hq (br_f (by decide) (pz_Y_done H (by omega) (br_f (by rw [h']; decide) (br_f (by decide) (And.intro (vp_in_nI (by omega) (by decide)) (toY (fun r' => r' = 0 ∧ i_Rel (k + 4) (c, g) (g, t)) ⟨b, rfl, L, H⟩))))))))))))
      · exact br_f (by rw [b]; decide) (pz_Y_pat1 hp (br_f (by decide) (pz_Y_done H (by omega) (br_f (by rw [h]; decide) (br_f (by decide) (pz_Y_pat1 hq (br_f (by decide) (pz_Y_done H (by omega) (br_f (by rw [h']; decide) (br_f (by decide) (And.intro (vp_in_nI (by omega) (by decide)) (toY (fun r' => r' = 1 ∧ i_Rel (k + 4) (c, g) (g, t)) ⟨b, rfl, L, H⟩))))))))))))
