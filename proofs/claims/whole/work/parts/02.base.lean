/-! the pure picture: list l has length L l and tokens t (25 * l + i), in the reference's place -/
def pz_pa (x : Int32) : Int32 := if x = 0 then 2 else if x = 1 then 2 else if x = 2 then 1 else if x = 3 then 1 else 0
def pz_F (t : Nat → Int32) (l : Nat) : Nat → Int32 := fun i => t (25 * l + i)
def pz_R (c g t : Nat → Int32) (L : Nat → Nat) : Prop :=
  (∀ l, l < 5 → g l = nI (L l)) ∧ (∀ l, l < 4 → L l ≤ 9) ∧ L 4 ≤ 25 ∧
  (∀ l i, l < 5 → i < L l → c (9 * l + i) = t (25 * l + i)) ∧
  (∀ l i, l < 5 → i < L l → ∃ j : Nat, j < 8 ∧ t (25 * l + i) = nI j)
def i_Rel (_ : Nat) (u : SX) (v : SY) : Prop := v.1 = u.2 ∧ ∃ L : Nat → Nat, pz_R u.1 u.2 v.2 L
theorem i_up {k : Nat} {u : SX} {v : SY} (h : i_Rel k u v) : i_Rel (k + 4) u v := h
theorem pz_zero : pz_R (fun _ => 0) (fun _ => 0) (fun _ => 0) (fun _ => 0) :=
  ⟨fun _ _ => rfl, fun _ _ => Nat.zero_le _, Nat.zero_le _, fun _ _ _ h => absurd h (Nat.not_lt_zero _), fun _ _ _ h => absurd h (Nat.not_lt_zero _)⟩
theorem i_vc0 : wpX_init (fun u => wpY_init (fun v => i_Rel 0 u v)) := ⟨rfl, (fun _ => 0), pz_zero⟩
section
variable {c g t : Nat → Int32} {L : Nat → Nat}
theorem pz_L25 (H : pz_R c g t L) {l : Nat} (hl : l < 5) : L l ≤ 25 := by
  rcases Nat.lt_or_ge l 4 with h | h
  · exact Nat.le_trans (H.2.1 l h) (by decide)
  · have : l = 4 := by omega
    subst this
    exact H.2.2.1
theorem pz_iX (H : pz_R c g t L) {l i : Nat} (hl : l < 5) (hi : i < L l) : 9 * l + i < 61 := by
  rcases Nat.lt_or_ge l 4 with h | h
  · have := H.2.1 l h
    omega
  · have : l = 4 := by omega
    subst this
    have := H.2.2.1
    omega
theorem pz_iY (H : pz_R c g t L) {l i : Nat} (hl : l < 5) (hi : i < L l) : 25 * l + i < 125 := by
  have := pz_L25 H hl
  omega
theorem pz_gl (H : pz_R c g t L) {l : Nat} (hl : l < 5) : g (nI l).toNatClampNeg = nI (L l) := by
  rw [nI_clamp (by omega)]
  exact H.1 l hl
theorem pz_eX (l i : Nat) : nI l * 9 + nI i = nI (9 * l + i) := by
  rw [show (9 : Int32) = nI 9 from rfl, pk_mul, nI_add, Nat.mul_comm]
theorem pz_eY (l i : Nat) : 25 * nI l + nI i = nI (25 * l + i) := by
  rw [show (25 : Int32) = nI 25 from rfl, pk_mul, nI_add]
theorem pz_tok (H : pz_R c g t L) {l i : Nat} (hl : l < 5) (hi : i < L l) {post : Int32 → Prop} (h : post (pz_F t l i)) : wpX_tokenAt post (c, g) (nI l) (nI i) := by
  have hb := pz_iX H hl hi
  have hL := pz_L25 H hl
  have e : c (nI l * 9 + nI i).toNatClampNeg = pz_F t l i := by
    rw [pz_eX, nI_clamp (by omega)]
    exact H.2.2.2.1 l i hl hi
  have hv : vp_in (nI l * 9 + nI i) 61 := by
    rw [pz_eX]
    exact vp_in_nI hb (by decide)
  have hn : ¬ g (nI l).toNatClampNeg ≤ nI i := by
    rw [pz_gl H hl]
    exact nI_ge hi (by omega)
  refine br_f (nI_pos (by omega)) (And.intro (vp_in_nI hl (by decide)) (br_f hn (br_f (by decide) (And.intro hv ?_))))
  rw [e]
  exact h
theorem pz_tokN (H : pz_R c g t L) {l i : Nat} (hl : l < 5) (hi : L l ≤ i) (h31 : i < 2 ^ 31) {post : Int32 → Prop} (h : post (-1)) : wpX_tokenAt post (c, g) (nI l) (nI i) := by
  have hn : g (nI l).toNatClampNeg ≤ nI i := by
    rw [pz_gl H hl]
    exact nI_le hi h31
  exact br_f (nI_pos h31) (And.intro (vp_in_nI hl (by decide)) (br_t hn (br_t rfl h)))
theorem pz_X_parts {post : Int32 → Prop} {x : Int32} (h : post (pz_pa x)) : wpX_partsOf post x := by
  unfold pz_pa at h
  by_cases a : x = 0
  · rw [if_pos a] at h; exact br_t a h
  rw [if_neg a] at h
  by_cases b : x = 1
  · rw [if_pos b] at h; exact br_f a (br_t b h)
  rw [if_neg b] at h
  by_cases d : x = 2
  · rw [if_pos d] at h; exact br_f a (br_f b (br_t d h))
  rw [if_neg d] at h
  by_cases e : x = 3
  · rw [if_pos e] at h; exact br_f a (br_f b (br_f d (br_t e h)))
  rw [if_neg e] at h
  exact br_f a (br_f b (br_f d (br_f e h)))
theorem pz_pa8 : ∀ j, j < 8 → (1 < nI j ∧ 3 < nI j ∧ pz_pa (nI j) = 0) ∨ (1 < nI j ∧ ¬ 3 < nI j ∧ pz_pa (nI j) = 1) ∨ (¬ 1 < nI j ∧ pz_pa (nI j) = 2) := by decide +kernel
theorem pz_Y_parts {post : Int32 → Prop} {j : Nat} (hj : j < 8) (h : post (pz_pa (nI j))) : wpY_parts post (g, t) (nI j) := by
  rcases pz_pa8 j hj with ⟨a, b, e⟩ | ⟨a, b, e⟩ | ⟨a, e⟩
  · rw [e] at h; exact br_t a (br_t b h)
  · rw [e] at h; exact br_t a (br_f b h)
  · rw [e] at h; exact br_f a h
theorem pz_Y_partsF (H : pz_R c g t L) {l i : Nat} (hl : l < 5) (hi : i < L l) {post : Int32 → Prop} (h : post (pz_pa (pz_F t l i))) : wpY_parts post (g, t) (t (25 * nI l + nI i).toNatClampNeg) := by
  have hb := pz_iY H hl hi
  obtain ⟨j, hj, e⟩ := H.2.2.2.2 l i hl hi
  rw [pz_eY, nI_clamp (by omega), e]
  refine pz_Y_parts hj ?_
  rw [← e]
  exact h
theorem pz_inY (H : pz_R c g t L) {l i : Nat} (hl : l < 5) (hi : i < L l) : vp_in (25 * nI l + nI i) 125 := by
  rw [pz_eY]
  exact vp_in_nI (pz_iY H hl hi) (by decide)
theorem pz_tY (H : pz_R c g t L) {l i : Nat} (hl : l < 5) (hi : i < L l) : t (25 * nI l + nI i).toNatClampNeg = pz_F t l i := by
  have hb := pz_iY H hl hi
  rw [pz_eY, nI_clamp (by omega)]
  rfl
theorem pz_neM (H : pz_R c g t L) {l i : Nat} (hl : l < 5) (hi : i < L l) : ¬ pz_F t l i = -1 := by
  obtain ⟨j, hj, e⟩ := H.2.2.2.2 l i hl hi
  intro z
  have : nI j = -1 := e.symm.trans z
  exact (by decide +kernel : ∀ j, j < 8 → ¬ nI j = -1) j hj this
/-! complete: what is missing -/
def pz_ms (F : Nat → Int32) : Nat → Int32
  | 0 => 1
  | k + 1 => pz_ms F k + (pz_pa (F k) - 1)
def pz_cm (t : Nat → Int32) (L : Nat → Nat) (l : Nat) : Int32 := if pz_ms (pz_F t l) (L l) = 0 then 1 else 0
theorem pz_cm01 (t : Nat → Int32) (L : Nat → Nat) (l : Nat) : pz_cm t L l = 0 ∨ pz_cm t L l = 1 := by
  unfold pz_cm
  by_cases z : pz_ms (pz_F t l) (L l) = 0
  · rw [if_pos z]; exact Or.inr rfl
  · rw [if_neg z]; exact Or.inl rfl
theorem pz_cmE {post : Int32 → Prop} {t : Nat → Int32} {L : Nat → Nat} {l : Nat} (h : post (pz_cm t L l)) : (pz_ms (pz_F t l) (L l) = 0 → post 1) ∧ (¬ pz_ms (pz_F t l) (L l) = 0 → post 0) := by
  unfold pz_cm at h
  by_cases z : pz_ms (pz_F t l) (L l) = 0
  · rw [if_pos z] at h; exact br_t z h
  · rw [if_neg z] at h; exact br_f z h
theorem pz_X_comp (H : pz_R c g t L) {l : Nat} (hl : l < 5) {post : Int32 → Prop} (h : post (pz_cm t L l)) : wpX_isComplete post (c, g) (nI l) := by
  have hL := pz_L25 H hl
  have key : ∀ d k n, k + d = L l → d < n → wX_isComplete_4 post (nI l) c g n (pz_ms (pz_F t l) k) (nI k) := by
    intro d
    induction d with
    | zero =>
      intro k n hk hn
      obtain ⟨n, rfl⟩ : ∃ m, n = m + 1 := ⟨n - 1, by omega⟩
      have hk' : k = L l := by omega
      subst hk'
      have hle : g (nI l).toNatClampNeg ≤ nI (L l) := by rw [pz_gl H hl]; exact nI_le (Nat.le_refl _) (by omega)
      exact And.intro (vp_in_nI hl (by decide)) (br_t hle (pz_cmE h))
    | succ d ih =>
      intro k n hk hn
      obtain ⟨n, rfl⟩ : ∃ m, n = m + 1 := ⟨n - 1, by omega⟩
      have hle : ¬ g (nI l).toNatClampNeg ≤ nI k := by rw [pz_gl H hl]; exact nI_ge (by omega) (by omega)
      refine And.intro (vp_in_nI hl (by decide)) (br_f hle (pz_tok H hl (by omega) (pz_X_parts ?_)))
      intro x2 e2 x3 e3
      subst e2 e3
      have := ih (k + 1) n (by omega) (by omega)
      rw [← nI_1] at this
      exact this
  exact ⟨L l + 1, key (L l) 0 _ (by omega) (by omega)⟩
theorem pz_Y_done (H : pz_R c g t L) {l : Nat} (hl : l < 5) {post : Int32 → Prop} (h : post (pz_cm t L l)) : wpY_done post (g, t) (nI l) := by
  have hL := pz_L25 H hl
  have key : ∀ d k n, k + d = L l → d < n → wY_done_4 post (nI l) g t n (pz_ms (pz_F t l) k) (nI k) := by
    intro d
    induction d with
    | zero =>
      intro k n hk hn
      obtain ⟨n, rfl⟩ : ∃ m, n = m + 1 := ⟨n - 1, by omega⟩
      have hk' : k = L l := by omega
      subst hk'
      have hle : g (nI l).toNatClampNeg ≤ nI (L l) := by rw [pz_gl H hl]; exact nI_le (Nat.le_refl _) (by omega)
      exact And.intro (vp_in_nI hl (by decide)) (br_t hle (pz_cmE h))
    | succ d ih =>
      intro k n hk hn
      obtain ⟨n, rfl⟩ : ∃ m, n = m + 1 := ⟨n - 1, by omega⟩
      have hle : ¬ g (nI l).toNatClampNeg ≤ nI k := by rw [pz_gl H hl]; exact nI_ge (by omega) (by omega)
      refine And.intro (vp_in_nI hl (by decide)) (br_f hle (And.intro (pz_inY H hl (by omega)) (pz_Y_partsF H hl (by omega) ?_)))
      intro x2 e2 x3 e3
      have e : x2 = pz_ms (pz_F t l) (k + 1) := by
        rw [e2]
        show _ = pz_ms (pz_F t l) k + (pz_pa (pz_F t l k) - 1)
        generalize pz_ms (pz_F t l) k = a
        generalize pz_pa (pz_F t l k) = b
        grind
      subst e e3
      have := ih (k + 1) n (by omega) (by omega)
      rw [← nI_1] at this
      exact this
  exact ⟨L l + 1, key (L l) 0 _ (by omega) (by omega)⟩
end
