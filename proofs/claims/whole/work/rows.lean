section
theorem pk_us {f : Nat → Int32} {k : Nat} {x : Int32} : upd f k x k = x := if_pos rfl
theorem pk_un {f : Nat → Int32} {k j : Nat} {x : Int32} (h : j ≠ k) : upd f k x j = f j := if_neg h
theorem pk_sub {a b : Nat} (h : b ≤ a) : nI a - nI b = nI (a - b) := by
  obtain ⟨c, rfl⟩ : ∃ c, a = c + b := ⟨a - b, by omega⟩
  rw [← nI_add, Int32.add_sub_cancel, Nat.add_sub_cancel]
theorem pk_mul (a b : Nat) : nI a * nI b = nI (a * b) := (Int32.ofNat_mul a b).symm
theorem pk_ix (x : Int32) {n : Nat} (hn : n < 2 ^ 31) : x < 0 ∨ nI n ≤ x ∨ ∃ j : Nat, j < n ∧ x = nI j := by
  by_cases h : x < 0
  · exact Or.inl h
  · obtain ⟨j, hj, rfl⟩ := nI_of h
    by_cases h2 : j < n
    · exact Or.inr (Or.inr ⟨j, h2, rfl⟩)
    · exact Or.inr (Or.inl (nI_le (by omega) hj))
theorem pk_le {x y : Int32} {A B : Prop} (a b : Nat) (f : a ≤ b → A) (g : b < a → B) (hx : x = nI a := by rfl) (hy : y = nI b := by rfl) (ha : a < 2 ^ 31 := by omega) (hb : b < 2 ^ 31 := by omega) : (x ≤ y → A) ∧ (¬ x ≤ y → B) := by
  subst hx hy
  rw [nI_leI ha hb]
  exact ⟨f, fun z => g (by omega)⟩
theorem pk_lt {x y : Int32} {A B : Prop} (a b : Nat) (f : a < b → A) (g : b ≤ a → B) (hx : x = nI a := by rfl) (hy : y = nI b := by rfl) (ha : a < 2 ^ 31 := by omega) (hb : b < 2 ^ 31 := by omega) : (x < y → A) ∧ (¬ x < y → B) := by
  subst hx hy
  rw [nI_ltI ha hb]
  exact ⟨f, fun z => g (by omega)⟩
theorem pk_eq {x y : Int32} {A B : Prop} (a b : Nat) (f : a = b → A) (g : a ≠ b → B) (hx : x = nI a := by rfl) (hy : y = nI b := by rfl) (ha : a < 2 ^ 31 := by omega) (hb : b < 2 ^ 31 := by omega) : (x = y → A) ∧ (¬ x = y → B) := by
  subst hx hy
  rw [nI_eq ha hb]
  exact ⟨f, g⟩
theorem pk_in {x : Int32} (n N : Nat) (h : n < N) (hx : x = nI n := by rfl) (hN : N < 2 ^ 31 := by omega) : vp_in x N := by
  subst hx
  exact vp_in_nI h hN
theorem pk_cl {x : Int32} (n : Nat) (hx : x = nI n := by rfl) (h : n < 2 ^ 31 := by omega) : x.toNatClampNeg = n := by
  subst hx
  exact nI_clamp h
theorem pk_tn {n : Nat} (h : n < 2 ^ 32) : (nI n).toBitVec.toNat = n := Nat.mod_eq_of_lt h
theorem pk_least (P : Nat → Prop) (h : ∃ k, P k) : ∃ k, P k ∧ ∀ j, j < k → ¬ P j := by
  obtain ⟨k, hk⟩ := h
  induction k using Nat.strongRecOn with
  | ind k ih =>
    by_cases e : ∃ j, j < k ∧ P j
    · obtain ⟨j, hj, pj⟩ := e
      exact ih j hj pj
    · exact ⟨k, hk, fun j hj pj => e ⟨j, hj, pj⟩⟩
end
section
/-! the pure picture: list l has length L l and tokens t (25 * l + i), in the reference's place -/
def pz_pa (x : Int32) : Int32 := if x = 0 then 2 else if x = 1 then 2 else if x = 2 then 1 else if x = 3 then 1 else 0
def pz_F (t : Nat → Int32) (l : Nat) : Nat → Int32 := fun i => t (25 * l + i)
def pz_R (c g t : Nat → Int32) (L : Nat → Nat) : Prop :=
  (∀ l, l < 5 → g l = nI (L l)) ∧ (∀ l, l < 4 → L l ≤ 9) ∧ L 4 ≤ 25 ∧
  (∀ l i, l < 5 → i < L l → c (9 * l + i) = t (25 * l + i)) ∧
  (∀ l i, l < 5 → i < L l → ∃ j : Nat, j < 8 ∧ t (25 * l + i) = nI j)
def i_Rel (_ : Nat) (u : SX) (v : SY) : Prop := v.1 = u.2 ∧ ∃ L : Nat → Nat, pz_R u.1 u.2 v.2 L
theorem i_up {k : Nat} {u : SX} {v : SY} (h : i_Rel k u v) : i_Rel (k + 4) u v := h
theorem pz_zero : pz_R (fun _ => 0) (fun _ => 0) (fun _ => 0) (fun _ => 0) :=
  ⟨fun _ _ => rfl, fun _ _ => Nat.zero_le _, Nat.zero_le _, fun _ _ _ h => absurd h (Nat.not_lt_zero _), fun _ _ _ h => absurd h (Nat.not_lt_zero _)⟩
theorem i_vc0 : wpX_init (fun u => wpY_init (fun v => i_Rel 0 u v)) := ⟨rfl, (fun _ => 0), pz_zero⟩
section
variable {c g t : Nat → Int32} {L : Nat → Nat}
theorem pz_L25 (H : pz_R c g t L) {l : Nat} (hl : l < 5) : L l ≤ 25 := by
  rcases Nat.lt_or_ge l 4 with h | h
  · exact Nat.le_trans (H.2.1 l h) (by decide)
  · have : l = 4 := by omega
    subst this
    exact H.2.2.1
theorem pz_iX (H : pz_R c g t L) {l i : Nat} (hl : l < 5) (hi : i < L l) : 9 * l + i < 61 := by
  rcases Nat.lt_or_ge l 4 with h | h
  · have := H.2.1 l h
    omega
  · have : l = 4 := by omega
    subst this
    have := H.2.2.1
    omega
theorem pz_iY (H : pz_R c g t L) {l i : Nat} (hl : l < 5) (hi : i < L l) : 25 * l + i < 125 := by
  have := pz_L25 H hl
  omega
theorem pz_gl (H : pz_R c g t L) {l : Nat} (hl : l < 5) : g (nI l).toNatClampNeg = nI (L l) := by
  rw [nI_clamp (by omega)]
  exact H.1 l hl
theorem pz_eX (l i : Nat) : nI l * 9 + nI i = nI (9 * l + i) := by
  rw [show (9 : Int32) = nI 9 from rfl, pk_mul, nI_add, Nat.mul_comm]
theorem pz_eY (l i : Nat) : 25 * nI l + nI i = nI (25 * l + i) := by
  rw [show (25 : Int32) = nI 25 from rfl, pk_mul, nI_add]
theorem pz_tok (H : pz_R c g t L) {l i : Nat} (hl : l < 5) (hi : i < L l) {post : Int32 → Prop} (h : post (pz_F t l i)) : wpX_tokenAt post (c, g) (nI l) (nI i) := by
  have hb := pz_iX H hl hi
  have hL := pz_L25 H hl
  have e : c (nI l * 9 + nI i).toNatClampNeg = pz_F t l i := by
    rw [pz_eX, nI_clamp (by omega)]
    exact H.2.2.2.1 l i hl hi
  have hv : vp_in (nI l * 9 + nI i) 61 := by
    rw [pz_eX]
    exact vp_in_nI hb (by decide)
  have hn : ¬ g (nI l).toNatClampNeg ≤ nI i := by
    rw [pz_gl H hl]
    exact nI_ge hi (by omega)
  refine br_f (nI_pos (by omega)) (And.intro (vp_in_nI hl (by decide)) (br_f hn (br_f (by decide) (And.intro hv ?_))))
  rw [e]
  exact h
theorem pz_tokN (H : pz_R c g t L) {l i : Nat} (hl : l < 5) (hi : L l ≤ i) (h31 : i < 2 ^ 31) {post : Int32 → Prop} (h : post (-1)) : wpX_tokenAt post (c, g) (nI l) (nI i) := by
  have hn : g (nI l).toNatClampNeg ≤ nI i := by
    rw [pz_gl H hl]
    exact nI_le hi h31
  exact br_f (nI_pos h31) (And.intro (vp_in_nI hl (by decide)) (br_t hn (br_t rfl h)))
theorem pz_X_parts {post : Int32 → Prop} {x : Int32} (h : post (pz_pa x)) : wpX_partsOf post x := by
  unfold pz_pa at h
  by_cases a : x = 0
  · rw [if_pos a] at h; exact br_t a h
  rw [if_neg a] at h
  by_cases b : x = 1
  · rw [if_pos b] at h; exact br_f a (br_t b h)
  rw [if_neg b] at h
  by_cases d : x = 2
  · rw [if_pos d] at h; exact br_f a (br_f b (br_t d h))
  rw [if_neg d] at h
  by_cases e : x = 3
  · rw [if_pos e] at h; exact br_f a (br_f b (br_f d (br_t e h)))
  rw [if_neg e] at h
  exact br_f a (br_f b (br_f d (br_f e h)))
theorem pz_pa8 : ∀ j, j < 8 → (1 < nI j ∧ 3 < nI j ∧ pz_pa (nI j) = 0) ∨ (1 < nI j ∧ ¬ 3 < nI j ∧ pz_pa (nI j) = 1) ∨ (¬ 1 < nI j ∧ pz_pa (nI j) = 2) := by decide +kernel
theorem pz_Y_parts {post : Int32 → Prop} {j : Nat} (hj : j < 8) (h : post (pz_pa (nI j))) : wpY_parts post (g, t) (nI j) := by
  rcases pz_pa8 j hj with ⟨a, b, e⟩ | ⟨a, b, e⟩ | ⟨a, e⟩
  · rw [e] at h; exact br_t a (br_t b h)
  · rw [e] at h; exact br_t a (br_f b h)
  · rw [e] at h; exact br_f a h
theorem pz_Y_partsF (H : pz_R c g t L) {l i : Nat} (hl : l < 5) (hi : i < L l) {post : Int32 → Prop} (h : post (pz_pa (pz_F t l i))) : wpY_parts post (g, t) (t (25 * nI l + nI i).toNatClampNeg) := by
  have hb := pz_iY H hl hi
  obtain ⟨j, hj, e⟩ := H.2.2.2.2 l i hl hi
  rw [pz_eY, nI_clamp (by omega), e]
  refine pz_Y_parts hj ?_
  rw [← e]
  exact h
theorem pz_inY (H : pz_R c g t L) {l i : Nat} (hl : l < 5) (hi : i < L l) : vp_in (25 * nI l + nI i) 125 := by
  rw [pz_eY]
  exact vp_in_nI (pz_iY H hl hi) (by decide)
theorem pz_tY (H : pz_R c g t L) {l i : Nat} (hl : l < 5) (hi : i < L l) : t (25 * nI l + nI i).toNatClampNeg = pz_F t l i := by
  have hb := pz_iY H hl hi
  rw [pz_eY, nI_clamp (by omega)]
  rfl
theorem pz_neM (H : pz_R c g t L) {l i : Nat} (hl : l < 5) (hi : i < L l) : ¬ pz_F t l i = -1 := by
  obtain ⟨j, hj, e⟩ := H.2.2.2.2 l i hl hi
  intro z
  have : nI j = -1 := e.symm.trans z
  exact (by decide +kernel : ∀ j, j < 8 → ¬ nI j = -1) j hj this
/-! complete: what is missing -/
def pz_ms (F : Nat → Int32) : Nat → Int32
  | 0 => 1
  | k + 1 => pz_ms F k + (pz_pa (F k) - 1)
def pz_cm (t : Nat → Int32) (L : Nat → Nat) (l : Nat) : Int32 := if pz_ms (pz_F t l) (L l) = 0 then 1 else 0
theorem pz_cm01 (t : Nat → Int32) (L : Nat → Nat) (l : Nat) : pz_cm t L l = 0 ∨ pz_cm t L l = 1 := by
  unfold pz_cm
  by_cases z : pz_ms (pz_F t l) (L l) = 0
  · rw [if_pos z]; exact Or.inr rfl
  · rw [if_neg z]; exact Or.inl rfl
theorem pz_cmE {post : Int32 → Prop} {t : Nat → Int32} {L : Nat → Nat} {l : Nat} (h : post (pz_cm t L l)) : (pz_ms (pz_F t l) (L l) = 0 → post 1) ∧ (¬ pz_ms (pz_F t l) (L l) = 0 → post 0) := by
  unfold pz_cm at h
  by_cases z : pz_ms (pz_F t l) (L l) = 0
  · rw [if_pos z] at h; exact br_t z h
  · rw [if_neg z] at h; exact br_f z h
theorem pz_X_comp (H : pz_R c g t L) {l : Nat} (hl : l < 5) {post : Int32 → Prop} (h : post (pz_cm t L l)) : wpX_isComplete post (c, g) (nI l) := by
  have hL := pz_L25 H hl
  have key : ∀ d k n, k + d = L l → d < n → wX_isComplete_4 post (nI l) c g n (pz_ms (pz_F t l) k) (nI k) := by
    intro d
    induction d with
    | zero =>
      intro k n hk hn
      obtain ⟨n, rfl⟩ : ∃ m, n = m + 1 := ⟨n - 1, by omega⟩
      have hk' : k = L l := by omega
      subst hk'
      have hle : g (nI l).toNatClampNeg ≤ nI (L l) := by rw [pz_gl H hl]; exact nI_le (Nat.le_refl _) (by omega)
      exact And.intro (vp_in_nI hl (by decide)) (br_t hle (pz_cmE h))
    | succ d ih =>
      intro k n hk hn
      obtain ⟨n, rfl⟩ : ∃ m, n = m + 1 := ⟨n - 1, by omega⟩
      have hle : ¬ g (nI l).toNatClampNeg ≤ nI k := by rw [pz_gl H hl]; exact nI_ge (by omega) (by omega)
      refine And.intro (vp_in_nI hl (by decide)) (br_f hle (pz_tok H hl (by omega) (pz_X_parts ?_)))
      intro x2 e2 x3 e3
      subst e2 e3
      have := ih (k + 1) n (by omega) (by omega)
      rw [← nI_1] at this
      exact this
  exact ⟨L l + 1, key (L l) 0 _ (by omega) (by omega)⟩
theorem pz_Y_done (H : pz_R c g t L) {l : Nat} (hl : l < 5) {post : Int32 → Prop} (h : post (pz_cm t L l)) : wpY_done post (g, t) (nI l) := by
  have hL := pz_L25 H hl
  have key : ∀ d k n, k + d = L l → d < n → wY_done_4 post (nI l) g t n (pz_ms (pz_F t l) k) (nI k) := by
    intro d
    induction d with
    | zero =>
      intro k n hk hn
      obtain ⟨n, rfl⟩ : ∃ m, n = m + 1 := ⟨n - 1, by omega⟩
      have hk' : k = L l := by omega
      subst hk'
      have hle : g (nI l).toNatClampNeg ≤ nI (L l) := by rw [pz_gl H hl]; exact nI_le (Nat.le_refl _) (by omega)
      exact And.intro (vp_in_nI hl (by decide)) (br_t hle (pz_cmE h))
    | succ d ih =>
      intro k n hk hn
      obtain ⟨n, rfl⟩ : ∃ m, n = m + 1 := ⟨n - 1, by omega⟩
      have hle : ¬ g (nI l).toNatClampNeg ≤ nI k := by rw [pz_gl H hl]; exact nI_ge (by omega) (by omega)
      refine And.intro (vp_in_nI hl (by decide)) (br_f hle (And.intro (pz_inY H hl (by omega)) (pz_Y_partsF H hl (by omega) ?_)))
      intro x2 e2 x3 e3
      have e : x2 = pz_ms (pz_F t l) (k + 1) := by
        rw [e2]
        show _ = pz_ms (pz_F t l) k + (pz_pa (pz_F t l k) - 1)
        generalize pz_ms (pz_F t l) k = a
        generalize pz_pa (pz_F t l k) = b
        grind
      subst e e3
      have := ih (k + 1) n (by omega) (by omega)
      rw [← nI_1] at this
      exact this
  exact ⟨L l + 1, key (L l) 0 _ (by omega) (by omega)⟩
end
end
section
/-! the end of a part; a pattern laid on a list -/
def pz_pe (F : Nat → Int32) : Nat → Int32 → Nat → Nat
  | 0, _, e => e
  | d + 1, m, e => if m ≤ 0 then e else pz_pe F d (m + (pz_pa (F e) - 1)) (e + 1)
theorem pz_pe_b (F : Nat → Int32) : ∀ d m e, e ≤ pz_pe F d m e ∧ pz_pe F d m e ≤ e + d := by
  intro d
  induction d with
  | zero => intro m e; exact ⟨Nat.le_refl _, Nat.le_refl _⟩
  | succ d ih =>
    intro m e
    unfold pz_pe
    by_cases z : m ≤ 0
    · rw [if_pos z]; omega
    · rw [if_neg z]
      have := ih (m + (pz_pa (F e) - 1)) (e + 1)
      omega
def pz_end (t : Nat → Int32) (L : Nat → Nat) (l e : Nat) : Nat := pz_pe (pz_F t l) (L l - e) 1 e
theorem pz_end_b {t : Nat → Int32} {L : Nat → Nat} {l e : Nat} (h : e ≤ L l) : e ≤ pz_end t L l e ∧ pz_end t L l e ≤ L l := by
  have := pz_pe_b (pz_F t l) (L l - e) 1 e
  unfold pz_end
  omega
def pz_lz (t : Nat → Int32) (L : Nat → Nat) (p l n : Nat) : Nat → Option Nat
  | 0 => some n
  | k + 1 => match pz_lz t L p l n k with
    | none => none
    | some a => if pz_F t p k = 7 then some (pz_end t L l a) else if a < L l ∧ pz_F t l a = pz_F t p k then some (a + 1) else none
theorem pz_lz_g {t : Nat → Int32} {L : Nat → Nat} {p l n k a : Nat} (h : pz_lz t L p l n k = some a) (h7 : pz_F t p k = 7) : pz_lz t L p l n (k + 1) = some (pz_end t L l a) := by
  simp only [pz_lz, h, h7, if_true]
theorem pz_lz_s {t : Nat → Int32} {L : Nat → Nat} {p l n k a : Nat} (h : pz_lz t L p l n k = some a) (h7 : ¬ pz_F t p k = 7) (ha : a < L l) (he : pz_F t l a = pz_F t p k) : pz_lz t L p l n (k + 1) = some (a + 1) := by
  simp only [pz_lz, h]
  rw [if_neg h7, if_pos ⟨ha, he⟩]
theorem pz_lz_f {t : Nat → Int32} {L : Nat → Nat} {p l n k a : Nat} (h : pz_lz t L p l n k = some a) (h7 : ¬ pz_F t p k = 7) (he : ¬ (a < L l ∧ pz_F t l a = pz_F t p k)) : pz_lz t L p l n (k + 1) = none := by
  simp only [pz_lz, h]
  rw [if_neg h7, if_neg he]
theorem pz_lz_n {t : Nat → Int32} {L : Nat → Nat} {p l n k : Nat} (h : pz_lz t L p l n k = none) : ∀ d, pz_lz t L p l n (k + d) = none := by
  intro d
  induction d with
  | zero => exact h
  | succ d ih =>
    show pz_lz t L p l n ((k + d) + 1) = none
    simp only [pz_lz, ih]
theorem pz_lz_le {t : Nat → Int32} {L : Nat → Nat} {p l n : Nat} (hn : n ≤ L l) : ∀ k a, pz_lz t L p l n k = some a → a ≤ L l := by
  intro k
  induction k with
  | zero =>
    intro a h
    have h' : some n = some a := h
    cases h'
    exact hn
  | succ k ih =>
    intro a h
    cases e : pz_lz t L p l n k with
    | none => rw [pz_lz_n e 1] at h; cases h
    | some b =>
      have hb := ih b e
      by_cases h7 : pz_F t p k = 7
      · rw [pz_lz_g e h7] at h
        cases h
        exact (pz_end_b hb).2
      · by_cases he : b < L l ∧ pz_F t l b = pz_F t p k
        · rw [pz_lz_s e h7 he.1 he.2] at h
          cases h
          omega
        · rw [pz_lz_f e h7 he] at h
          cases h
def pz_ov : Option Nat → Int32
  | none => -1
  | some a => nI a
def pz_bv : Option Nat → Int32
  | none => 0
  | some _ => 1
section
variable {c g t : Nat → Int32} {L : Nat → Nat}
theorem pz_X_pe (H : pz_R c g t L) {l : Nat} (hl : l < 5) {post : Int32 → Prop} : ∀ d n m e, L l - e = d → d < n → e < 2 ^ 30 → post (nI (pz_pe (pz_F t l) d m e)) → wX_partEnd_5 post (nI l) c g n m (nI e) := by
  have hL := pz_L25 H hl
  intro d
  induction d with
  | zero =>
    intro n m e hd hn h30 h
    obtain ⟨n, rfl⟩ : ∃ m, n = m + 1 := ⟨n - 1, by omega⟩
    have hle : g (nI l).toNatClampNeg ≤ nI e := by rw [pz_gl H hl]; exact nI_le (by omega) (by omega)
    by_cases z : m ≤ 0
    · exact br_t z h
    · exact br_f z (And.intro (vp_in_nI hl (by decide)) (br_t hle h))
  | succ d ih =>
    intro n m e hd hn h30 h
    obtain ⟨n, rfl⟩ : ∃ m, n = m + 1 := ⟨n - 1, by omega⟩
    have hle : ¬ g (nI l).toNatClampNeg ≤ nI e := by rw [pz_gl H hl]; exact nI_ge (by omega) (by omega)
    unfold pz_pe at h
    by_cases z : m ≤ 0
    · rw [if_pos z] at h
      exact br_t z h
    · rw [if_neg z] at h
      refine br_f z (And.intro (vp_in_nI hl (by decide)) (br_f hle (pz_tok H hl (by omega) (pz_X_parts ?_))))
      intro x3 e3 x4 e4
      subst e3 e4
      rw [nI_1]
      exact ih n _ (e + 1) (by omega) (by omega) (by omega) h
theorem pz_X_end (H : pz_R c g t L) {l e : Nat} (hl : l < 5) (he : e < 2 ^ 30) {post : Int32 → Prop} (h : post (nI (pz_end t L l e))) : wpX_partEnd post (c, g) (nI l) (nI e) :=
  ⟨L l - e + 1, pz_X_pe H hl (L l - e) _ 1 e rfl (by omega) he h⟩
theorem pz_Y_pe (H : pz_R c g t L) {l : Nat} (hl : l < 5) {post : Int32 → Prop} : ∀ d n m e, L l - e = d → d < n → e < 2 ^ 30 → post (nI (pz_pe (pz_F t l) d m e)) → wY_behind_5 post (nI l) g t n m (nI e) := by
  have hL := pz_L25 H hl
  intro d
  induction d with
  | zero =>
    intro n m e hd hn h30 h
    obtain ⟨n, rfl⟩ : ∃ m, n = m + 1 := ⟨n - 1, by omega⟩
    have hle : g (nI l).toNatClampNeg ≤ nI e := by rw [pz_gl H hl]; exact nI_le (by omega) (by omega)
    by_cases z : m ≤ 0
    · exact br_t z h
    · exact br_f z (And.intro (vp_in_nI hl (by decide)) (br_t hle h))
  | succ d ih =>
    intro n m e hd hn h30 h
    obtain ⟨n, rfl⟩ : ∃ m, n = m + 1 := ⟨n - 1, by omega⟩
    have hle : ¬ g (nI l).toNatClampNeg ≤ nI e := by rw [pz_gl H hl]; exact nI_ge (by omega) (by omega)
    unfold pz_pe at h
    by_cases z : m ≤ 0
    · rw [if_pos z] at h
      exact br_t z h
    · rw [if_neg z] at h
      refine br_f z (And.intro (vp_in_nI hl (by decide)) (br_f hle (And.intro (pz_inY H hl (by omega)) (pz_Y_partsF H hl (by omega) ?_))))
      intro x3 e3 x4 e4
      have e5 : x3 = m + (pz_pa (pz_F t l e) - 1) := by
        rw [e3]
        generalize pz_pa (pz_F t l e) = b
        grind
      subst e5 e4
      rw [nI_1]
      exact ih n _ (e + 1) (by omega) (by omega) (by omega) h
theorem pz_Y_end (H : pz_R c g t L) {l e : Nat} (hl : l < 5) (he : e < 2 ^ 30) {post : Int32 → Prop} (h : post (nI (pz_end t L l e))) : wpY_behind post (g, t) (nI l) (nI e) :=
  ⟨L l - e + 1, pz_Y_pe H hl (L l - e) _ 1 e rfl (by omega) he h⟩
theorem pz_Y_lies (H : pz_R c g t L) {p l n b : Nat} (hp : p < 5) (hl : l < 5) (hn : n ≤ L l) (hb : b ≤ L p) {post : Int32 → Prop} (h : post (pz_ov (pz_lz t L p l n b))) : wpY_lies post (g, t) (nI p) (nI l) (nI n) (nI b) := by
  have hL := pz_L25 H hl
  have hP := pz_L25 H hp
  have key : ∀ d k f a, k + d = b → d < f → pz_lz t L p l n k = some a → wY_lies_6 post (nI p) (nI l) (nI b) g t f (nI a) (nI k) := by
    intro d
    induction d with
    | zero =>
      intro k f a hk hf hz
      obtain ⟨f, rfl⟩ : ∃ m, f = m + 1 := ⟨f - 1, by omega⟩
      have hk' : k = b := by omega
      subst hk'
      rw [hz] at h
      exact br_t (nI_le (Nat.le_refl _) (by omega)) h
    | succ d ih =>
      intro k f a hk hf hz
      obtain ⟨f, rfl⟩ : ∃ m, f = m + 1 := ⟨f - 1, by omega⟩
      have ha := pz_lz_le hn k a hz
      refine br_f (nI_ge (by omega) (by omega)) (And.intro (pz_inY H hp (by omega)) ?_)
      intro x7 e7
      rw [pz_tY H hp (by omega)] at e7
      subst e7
      by_cases h7 : pz_F t p k = 7
      · refine br_t h7 (pz_Y_end H hl (by omega) ?_)
        intro x6 e6
        subst e6
        rw [nI_1]
        exact ih (k + 1) f _ (by omega) (by omega) (pz_lz_g hz h7)
      · refine br_f h7 (And.intro (vp_in_nI hl (by decide)) ?_)
        by_cases hal : a < L l
        · have hle : ¬ g (nI l).toNatClampNeg ≤ nI a := by rw [pz_gl H hl]; exact nI_ge hal (by omega)
          refine br_f hle (And.intro (pz_inY H hl hal) ?_)
          rw [pz_tY H hl hal]
          by_cases he : pz_F t l a = pz_F t p k
          · refine br_t he ?_
            intro x5 e5 x6 e6
            subst e5 e6
            rw [nI_1, nI_1]
            exact ih (k + 1) f _ (by omega) (by omega) (pz_lz_s hz h7 hal he)
          · refine br_f he ?_
            have := pz_lz_n (pz_lz_f hz h7 (fun w => he w.2)) d
            rw [show k + 1 + d = b by omega] at this
            rw [this] at h
            exact h
        · have hle : g (nI l).toNatClampNeg ≤ nI a := by rw [pz_gl H hl]; exact nI_le (by omega) (by omega)
          refine br_t hle ?_
          have := pz_lz_n (pz_lz_f hz h7 (fun w => hal w.1)) d
          rw [show k + 1 + d = b by omega] at this
          rw [this] at h
          exact h
  exact ⟨b + 1, key b 0 _ n (by omega) (by omega) rfl⟩
theorem pz_X_walk (H : pz_R c g t L) {p l n : Nat} (hp : p < 5) (hl : l < 5) (hn : n ≤ L l) {post : Int32 → Prop} (h : post (pz_bv (pz_lz t L p l n (L p)))) : ∃ f, wX_fits_33 post (nI p) (nI l) c g f (nI n) 0 := by
  have hL := pz_L25 H hl
  have hP := pz_L25 H hp
  have key : ∀ d k f a, k + d = L p → d < f → pz_lz t L p l n k = some a → wX_fits_33 post (nI p) (nI l) c g f (nI a) (nI k) := by
    intro d
    induction d with
    | zero =>
      intro k f a hk hf hz
      obtain ⟨f, rfl⟩ : ∃ m, f = m + 1 := ⟨f - 1, by omega⟩
      have hk' : k = L p := by omega
      subst hk'
      rw [hz] at h
      have hle : g (nI p).toNatClampNeg ≤ nI (L p) := by rw [pz_gl H hp]; exact nI_le (Nat.le_refl _) (by omega)
      exact And.intro (vp_in_nI hp (by decide)) (br_t hle h)
    | succ d ih =>
      intro k f a hk hf hz
      obtain ⟨f, rfl⟩ : ∃ m, f = m + 1 := ⟨f - 1, by omega⟩
      have ha := pz_lz_le hn k a hz
      have hle : ¬ g (nI p).toNatClampNeg ≤ nI k := by rw [pz_gl H hp]; exact nI_ge (by omega) (by omega)
      refine And.intro (vp_in_nI hp (by decide)) (br_f hle (pz_tok H hp (by omega) ?_))
      by_cases h7 : pz_F t p k = 7
      · refine br_t h7 (pz_X_end H hl (by omega) ?_)
        intro x6 e6
        subst e6
        rw [nI_1]
        exact ih (k + 1) f _ (by omega) (by omega) (pz_lz_g hz h7)
      · refine br_f h7 ?_
        have fin : pz_lz t L p l n (k + 1) = none → post 0 := by
          intro w
          have := pz_lz_n w d
          rw [show k + 1 + d = L p by omega] at this
          rw [this] at h
          exact h
        by_cases hal : a < L l
        · refine pz_tok H hl hal ?_
          by_cases he : pz_F t p k = pz_F t l a
          · refine br_t he ?_
            intro x5 e5 x6 e6
            subst e5 e6
            rw [nI_1, nI_1]
            exact ih (k + 1) f _ (by omega) (by omega) (pz_lz_s hz h7 hal he.symm)
          · exact br_f he (fin (pz_lz_f hz h7 (fun w => he w.2.symm)))
        · refine pz_tokN H hl (by omega) (by omega) ?_
          exact br_f (pz_neM H hp (by omega)) (fin (pz_lz_f hz h7 (fun w => hal w.1)))
  exact ⟨L p + 1, key (L p) 0 _ n (by omega) (by omega) rfl⟩
/-! fits -/
def pz_fi (t : Nat → Int32) (L : Nat → Nat) (p l n : Nat) : Int32 := if n < L l ∧ pz_cm t L p = 1 ∧ pz_cm t L l = 1 then pz_bv (pz_lz t L p l n (L p)) else 0
theorem pz_X_fits (H : pz_R c g t L) {p l n : Nat} (hp : p < 5) (hl : l < 5) (hn : n < 2 ^ 31) {post : Int32 → Prop} (h : post (pz_fi t L p l n)) : wpX_fits post (c, g) (nI p) (nI l) (nI n) := by
  have hL := pz_L25 H hl
  unfold pz_fi at h
  by_cases h1 : n < L l
  · have hle : ¬ g (nI l).toNatClampNeg ≤ nI n := by rw [pz_gl H hl]; exact nI_ge h1 (by omega)
    refine br_f (nI_pos hn) (And.intro (vp_in_nI hl (by decide)) (br_f hle (br_f (by decide) (pz_X_comp H hp ?_))))
    rcases pz_cm01 t L p with h2 | h2
    · rw [if_neg (fun w => by rw [h2] at w; exact absurd w.2.1 (by decide))] at h
      exact br_t h2 h
    · refine br_f (by rw [h2]; decide) (pz_X_comp H hl ?_)
      rcases pz_cm01 t L l with h3 | h3
      · rw [if_neg (fun w => by rw [h3] at w; exact absurd w.2.2 (by decide))] at h
        exact br_t h3 h
      · rw [if_pos ⟨h1, h2, h3⟩] at h
        exact br_f (by rw [h3]; decide) (pz_X_walk H hp hl (by omega) h)
  · have hle : g (nI l).toNatClampNeg ≤ nI n := by rw [pz_gl H hl]; exact nI_le (by omega) hn
    rw [if_neg (fun w => h1 w.1)] at h
    exact br_f (nI_pos hn) (And.intro (vp_in_nI hl (by decide)) (br_t hle (br_t rfl h)))
theorem pz_ov_lt {o : Option Nat} {post : Int32 → Prop} (hb : ∀ a, o = some a → a < 2 ^ 31) (h : post (pz_bv o)) : (pz_ov o < 0 → post 0) ∧ (¬ pz_ov o < 0 → post 1) := by
  cases o with
  | none => exact br_t (by decide) h
  | some a => exact br_f (nI_pos (hb a rfl)) h
theorem pz_Y_fits (H : pz_R c g t L) {p n : Nat} (hp : p < 5) (hn : n < 2 ^ 31) {post : Int32 → Prop} (h : post (pz_fi t L p 4 n)) : wpY_fits post (g, t) (nI p) (nI n) := by
  have hL := H.2.2.1
  unfold pz_fi at h
  refine pz_Y_done H hp ?_
  rcases pz_cm01 t L p with h2 | h2
  · rw [if_neg (fun w => by rw [h2] at w; exact absurd w.2.1 (by decide))] at h
    exact br_t h2 h
  · refine br_f (by rw [h2]; decide) (pz_Y_done H (l := 4) (by decide) ?_)
    rcases pz_cm01 t L 4 with h3 | h3
    · rw [if_neg (fun w => by rw [h3] at w; exact absurd w.2.2 (by decide))] at h
      exact br_t h3 (br_t rfl h)
    · refine br_f (by rw [h3]; decide) (br_f (nI_pos hn) ?_)
      by_cases h1 : n < L 4
      · have hle : ¬ g 4 ≤ nI n := by rw [H.1 4 (by decide)]; exact nI_ge h1 (by omega)
        rw [if_pos ⟨h1, h2, h3⟩] at h
        refine br_f hle (br_f (by decide) (And.intro (vp_in_nI hp (by decide)) ?_))
        rw [pz_gl H hp]
        exact pz_Y_lies H hp (l := 4) (by decide) (by omega) (Nat.le_refl _) (pz_ov_lt (fun a ha => by have := pz_lz_le (l := 4) (by omega) _ a ha; omega) h)
      · have hle : g 4 ≤ nI n := by rw [H.1 4 (by decide)]; exact nI_le (by omega) hn
        rw [if_neg (fun w => h1 w.1)] at h
        exact br_t hle (br_t rfl h)
/-- the same for every int -/
def pz_fa (t : Nat → Int32) (L : Nat → Nat) (p : Nat) (x : Int32) : Int32 := if x < 0 then 0 else pz_fi t L p 4 x.toNatClampNeg
theorem pz_fa_n {p n : Nat} (hn : n < 2 ^ 31) : pz_fa t L p (nI n) = pz_fi t L p 4 n := by
  unfold pz_fa
  rw [if_neg (nI_pos hn), nI_clamp hn]
theorem pz_X_fa (H : pz_R c g t L) {p : Nat} (hp : p < 5) (x : Int32) {post : Int32 → Prop} (h : post (pz_fa t L p x)) : wpX_fits post (c, g) (nI p) 4 x := by
  by_cases z : x < 0
  · unfold pz_fa at h
    rw [if_pos z] at h
    exact br_t z (br_t rfl h)
  · obtain ⟨n, hn, rfl⟩ := nI_of z
    rw [pz_fa_n hn] at h
    exact pz_X_fits H hp (l := 4) (by decide) hn h
theorem pz_Y_fa (H : pz_R c g t L) {p : Nat} (hp : p < 5) (x : Int32) {post : Int32 → Prop} (h : post (pz_fa t L p x)) : wpY_fits post (g, t) (nI p) x := by
  by_cases z : x < 0
  · unfold pz_fa at h
    rw [if_pos z] at h
    refine pz_Y_done H hp ?_
    rcases pz_cm01 t L p with h2 | h2
    · exact br_t h2 h
    · refine br_f (by rw [h2]; decide) (pz_Y_done H (l := 4) (by decide) ?_)
      rcases pz_cm01 t L 4 with h3 | h3
      · exact br_t h3 (br_t rfl h)
      · exact br_f (by rw [h3]; decide) (br_t z (br_t rfl h))
  · obtain ⟨n, hn, rfl⟩ := nI_of z
    rw [pz_fa_n hn] at h
    exact pz_Y_fits H hp hn h
end
end
section
/-! the calls that change the state -/
section
variable {c g t : Nat → Int32} {L : Nat → Nat}
theorem pz_X_pat1 {p : Nat} (hp : p < 4) {post : Int32 → Prop} (h : post 1) : wpX_isPattern post (nI p) :=
  br_f (nI_pos (by omega)) (br_f (nI_ge (b := 4) hp (by decide)) h)
theorem pz_Y_pat1 {p : Nat} (hp : p < 4) {post : Int32 → Prop} (h : post 1) : wpY_pattern post (g, t) (nI p) :=
  br_f (nI_pos (by omega)) (br_f (nI_nlt (a := 3) (b := p) (by omega) (by decide)) h)
theorem pz_X_pat0 {x : Int32} (hx : x < 0 ∨ nI 4 ≤ x) {post : Int32 → Prop} (h : post 0) : wpX_isPattern post x := by
  by_cases z : x < 0
  · exact br_t z h
  · exact br_f z (br_t (hx.resolve_left z) h)
theorem pz_lt_of_le {a b : Nat} (x : Int32) (hab : a < b) (hb : b < 2 ^ 31) (h : nI b ≤ x) : nI a < x := by
  have h1 := Int32.le_iff_toInt_le.mp h
  rw [nI_toInt hb] at h1
  apply Int32.lt_iff_toInt_lt.mpr
  rw [nI_toInt (by omega)]
  omega
theorem pz_Y_pat0 {x : Int32} (hx : x < 0 ∨ nI 4 ≤ x) {post : Int32 → Prop} (h : post 0) : wpY_pattern post (g, t) x := by
  by_cases z : x < 0
  · exact br_t z h
  · exact br_f z (br_t (pz_lt_of_le (a := 3) x (by decide) (by decide) (hx.resolve_left z)) h)
theorem pz_pat (x : Int32) : (x < 0 ∨ nI 4 ≤ x) ∨ ∃ p : Nat, p < 4 ∧ x = nI p := by
  rcases pk_ix x (n := 4) (by decide) with h | h | h
  · exact Or.inl (Or.inl h)
  · exact Or.inl (Or.inr h)
  · exact Or.inr h
theorem pz_X_full (H : pz_R c g t L) {l r : Nat} (hl : l < 5) (hr : r ≤ 25) {x : Int32} (hf : pz_cm t L l = 1 ∨ r ≤ L l) {post : Int32 → SX → Prop} (h : post (-2) (c, g)) : wpX_append post (c, g) (nI l) (nI r) x := by
  have hL := pz_L25 H hl
  refine And.intro (vp_in_nI hl (by decide)) ?_
  rw [pz_gl H hl]
  intro y ey
  subst ey
  by_cases z : r ≤ L l
  · exact br_t (nI_le z (by omega)) h
  · have h1 := hf.resolve_right z
    exact br_f (nI_ge (by omega) (by omega)) (pz_X_comp H hl (br_f (by rw [h1]; decide) h))
theorem pz_Y_full (H : pz_R c g t L) {l r : Nat} (hl : l < 5) (hr : r ≤ 25) {x : Int32} (hf : pz_cm t L l = 1 ∨ r ≤ L l) {post : Int32 → SY → Prop} (h : post (-2) (g, t)) : wpY_append post (g, t) (nI l) x (nI r) := by
  have hL := pz_L25 H hl
  refine pz_Y_done H hl ?_
  rcases pz_cm01 t L l with h1 | h1
  · have z : r ≤ L l := hf.resolve_left (by rw [h1]; decide)
    refine br_t h1 (And.intro (vp_in_nI hl (by decide)) ?_)
    rw [pz_gl H hl]
    exact br_f (nI_nlt z (by omega)) h
  · exact br_f (by rw [h1]; decide) h
theorem pz_X_add (H : pz_R c g t L) {l r : Nat} (hl : l < 5) (hr : r ≤ 25) {x : Int32} (hc : pz_cm t L l = 0) (hf : L l < r) (hi : 9 * l + L l < 61) {post : Int32 → SX → Prop} (h : post (nI (L l + 1)) (upd c (9 * l + L l) x, upd g l (nI (L l + 1)))) : wpX_append post (c, g) (nI l) (nI r) x := by
  have hL := pz_L25 H hl
  refine And.intro (vp_in_nI hl (by decide)) ?_
  rw [pz_gl H hl]
  intro y ey
  subst ey
  refine br_f (nI_ge (by omega) (by omega)) (pz_X_comp H hl (br_t hc ?_))
  rw [pz_eX]
  refine And.intro (vp_in_nI hi (by decide)) ?_
  intro a ea
  refine And.intro (vp_in_nI hl (by decide)) ?_
  intro b eb
  rw [nI_clamp (by omega)] at ea eb
  rw [nI_1] at eb
  rw [nI_1]
  subst ea eb
  exact h
theorem pz_Y_add (H : pz_R c g t L) {l r : Nat} (hl : l < 5) (hr : r ≤ 25) {x : Int32} (hc : pz_cm t L l = 0) (hf : L l < r) {post : Int32 → SY → Prop} (h : post (nI (L l + 1)) (upd g l (nI (L l + 1)), upd t (25 * l + L l) x)) : wpY_append post (g, t) (nI l) x (nI r) := by
  have hL := pz_L25 H hl
  refine pz_Y_done H hl (br_t hc (And.intro (vp_in_nI hl (by decide)) ?_))
  rw [pz_gl H hl, pz_eY]
  refine br_t (nI_lt hf (by omega)) (And.intro (vp_in_nI hl (by decide)) (And.intro (vp_in_nI (by omega) (by decide)) ?_))
  intro a ea
  refine And.intro (vp_in_nI hl (by decide)) (And.intro (vp_in_nI hl (by decide)) ?_)
  intro b eb
  refine And.intro (vp_in_nI hl (by decide)) ?_
  rw [nI_clamp (by omega)] at ea eb
  rw [nI_1] at eb
  subst ea eb
  rw [nI_clamp (by omega), pk_us]
  exact h
theorem pz_R_add (H : pz_R c g t L) {l r j : Nat} (hr : (l < 4 ∧ r = 9) ∨ (l = 4 ∧ r = 25)) (hf : L l < r) (hj : j < 8) : pz_R (upd c (9 * l + L l) (nI j)) (upd g l (nI (L l + 1))) (upd t (25 * l + L l) (nI j)) (fun m => if m = l then L l + 1 else L m) := by
  have hl : l < 5 := by omega
  have hLl := pz_L25 H hl
  refine ⟨?_, ?_, ?_, ?_, ?_⟩
  · intro m hm
    by_cases z : m = l
    · subst z; rw [pk_us]; simp only [if_true]
    · rw [pk_un z]; simp only [if_neg z]; exact H.1 m hm
  · intro m hm
    have := H.2.1 m hm
    by_cases z : m = l
    · subst z; simp only [if_true]; omega
    · simp only [if_neg z]; exact this
  · have := H.2.2.1
    by_cases z : 4 = l
    · subst z; simp only [if_true]; omega
    · simp only [if_neg z]; exact this
  · intro m i hm hi
    by_cases z : m = l
    · subst z
      simp only [if_true] at hi
      by_cases w : i = L m
      · subst w; rw [pk_us, pk_us]
      · rw [pk_un (by omega), pk_un (by omega)]
        exact H.2.2.2.1 m i hm (by omega)
    · simp only [if_neg z] at hi
      have h4 := H.2.1 m
      have hm25 := pz_L25 H hm
      rw [pk_un (by omega), pk_un (by omega)]
      exact H.2.2.2.1 m i hm hi
  · intro m i hm hi
    by_cases z : m = l
    · subst z
      simp only [if_true] at hi
      by_cases w : i = L m
      · subst w; rw [pk_us]; exact ⟨j, hj, rfl⟩
      · rw [pk_un (by omega)]
        exact H.2.2.2.2 m i hm (by omega)
    · simp only [if_neg z] at hi
      have h4 := H.2.1 m
      have hm25 := pz_L25 H hm
      rw [pk_un (by omega)]
      exact H.2.2.2.2 m i hm hi
theorem pz_app (H : pz_R c g t L) (k : Nat) {l r j : Nat} (hr : (l < 4 ∧ r = 9) ∨ (l = 4 ∧ r = 25)) (hj : j < 8) : ∃ (a : Int32) (c' g' t' : Nat → Int32), (∀ post : Int32 → SX → Prop, post a (c', g') → wpX_append post (c, g) (nI l) (nI r) (nI j)) ∧ (∀ post : Int32 → SY → Prop, post a (g', t') → wpY_append post (g, t) (nI l) (nI j) (nI r)) ∧ i_Rel k (c', g') (g', t') := by
  have hl : l < 5 := by omega
  have hr25 : r ≤ 25 := by omega
  by_cases z : r ≤ L l
  · exact ⟨-2, c, g, t, fun _ h => pz_X_full H hl hr25 (Or.inr z) h, fun _ h => pz_Y_full H hl hr25 (Or.inr z) h, rfl, L, H⟩
  rcases pz_cm01 t L l with hc | hc
  · exact ⟨_, _, _, _, fun _ h => pz_X_add H hl hr25 hc (by omega) (by omega) h, fun _ h => pz_Y_add H hl hr25 hc (by omega) h, rfl, _, pz_R_add H hr (by omega) hj⟩
  · exact ⟨-2, c, g, t, fun _ h => pz_X_full H hl hr25 (Or.inl hc) h, fun _ h => pz_Y_full H hl hr25 (Or.inl hc) h, rfl, L, H⟩
theorem pz_R_take (H : pz_R c g t L) {l : Nat} (hl : l < 5) : pz_R c (upd g l (nI (L l - 1))) t (fun m => if m = l then L l - 1 else L m) := by
  refine ⟨?_, ?_, ?_, ?_, ?_⟩
  · intro m hm
    by_cases z : m = l
    · subst z; rw [pk_us]; simp only [if_true]
    · rw [pk_un z]; simp only [if_neg z]; exact H.1 m hm
  · intro m hm
    have := H.2.1 m hm
    by_cases z : m = l
    · subst z; simp only [if_true]; omega
    · simp only [if_neg z]; exact this
  · have := H.2.2.1
    by_cases z : 4 = l
    · subst z; simp only [if_true]; omega
    · simp only [if_neg z]; exact this
  · intro m i hm hi
    by_cases z : m = l
    · subst z
      simp only [if_true] at hi
      exact H.2.2.2.1 m i hm (by omega)
    · simp only [if_neg z] at hi
      exact H.2.2.2.1 m i hm hi
  · intro m i hm hi
    by_cases z : m = l
    · subst z
      simp only [if_true] at hi
      exact H.2.2.2.2 m i hm (by omega)
    · simp only [if_neg z] at hi
      exact H.2.2.2.2 m i hm hi
theorem pz_take (H : pz_R c g t L) (k : Nat) {l : Nat} (hl : l < 5) : ∃ (a : Int32) (g' : Nat → Int32), (∀ post : Int32 → SX → Prop, post a (c, g') → wpX_takeLast post (c, g) (nI l)) ∧ (∀ post : Int32 → SY → Prop, post a (g', t) → wpY_take post (g, t) (nI l)) ∧ i_Rel k (c, g') (g', t) := by
  have hL := pz_L25 H hl
  have hi := vp_in_nI hl (N := 5) (by decide)
  by_cases z : L l = 0
  · have e : g (nI l).toNatClampNeg = 0 := by rw [pz_gl H hl, z]; rfl
    exact ⟨-1, g, fun _ h => And.intro hi (br_t e h), fun _ h => And.intro hi (br_t e h), rfl, L, H⟩
  · have e : ¬ g (nI l).toNatClampNeg = 0 := by rw [pz_gl H hl]; exact nI_ne0 (by omega) (by omega)
    have e1 : g (nI l).toNatClampNeg - 1 = nI (L l - 1) := by
      rw [pz_gl H hl, show (1 : Int32) = nI 1 from rfl, pk_sub (by omega)]
    refine ⟨pz_F t l (L l - 1), upd g l (nI (L l - 1)), ?_, ?_, rfl, _, pz_R_take H hl⟩
    · intro post h
      refine And.intro hi (br_f e (And.intro hi ?_))
      intro y ey
      rw [e1] at ey
      subst ey
      refine pz_tok H hl (by omega) (And.intro hi ?_)
      intro b eb
      rw [nI_clamp (by omega)] at eb
      subst eb
      exact h
    · intro post h
      refine And.intro hi (br_f e (And.intro hi (And.intro hi ?_)))
      intro a ea
      rw [e1, nI_clamp (by omega)] at ea
      subst ea
      refine And.intro hi ?_
      rw [nI_clamp (by omega), pk_us]
      refine And.intro (pz_inY H hl (by omega)) ?_
      rw [pz_tY H hl (by omega)]
      exact h
end
theorem i_vc_extend {k : Nat} {u : SX} {v : SY} (I : i_Rel k u v) (hk : k + 4 ≤ 2048) (v1 : Int32) (v2 : Int32) : wpX_extend (fun r u' => wpY_extend (fun r' v' => r' = r ∧ i_Rel (k + 4) u' v') v v1 v2) u v1 v2 := by
  obtain ⟨c, g⟩ := u
  obtain ⟨g', t⟩ := v
  obtain ⟨e, L, H⟩ := I
  cases e
  unfold wpX_extend wpY_extend
  dsimp only
  rcases pz_pat v1 with hp | ⟨p, hp, rfl⟩
  · exact pz_X_pat0 hp (br_t rfl (pz_Y_pat0 hp (br_t rfl ⟨rfl, rfl, L, H⟩)))
  · refine pz_X_pat1 hp (br_f (by decide) ?_)
    rcases pk_ix v2 (n := 8) (by decide) with h | h | ⟨j, hj, rfl⟩
    · exact br_t h (pz_Y_pat1 hp (br_f (by decide) (br_t h ⟨rfl, rfl, L, H⟩)))
    · have h0 : ¬ v2 < 0 := fun w => absurd (Int32.lt_of_lt_of_le w (Int32.le_trans (by decide : (0 : Int32) ≤ nI 8) h)) (Int32.lt_irrefl)
      exact br_f h0 (br_f (Int32.not_lt.mpr h) (pz_Y_pat1 hp (br_f (by decide) (br_f h0 (br_t (pz_lt_of_le (a := 7) v2 (by decide) (by decide) h) ⟨rfl, rfl, L, H⟩)))))
    · obtain ⟨a, c', g', t', hX, hY, hR⟩ := pz_app H (k + 4) (l := p) (r := 9) (Or.inl ⟨hp, rfl⟩) hj
      have h8 : nI j < 8 := nI_lt (b := 8) hj (by decide)
      have h7 : ¬ 7 < nI j := nI_nlt (a := 7) (b := j) (by omega) (by decide)
      exact br_f (nI_pos (by omega)) (br_t h8 (hX _ (pz_Y_pat1 hp (br_f (by decide) (br_f (nI_pos (by omega)) (br_f h7 (hY _ ⟨rfl, hR⟩)))))))
theorem i_vc_shorten {k : Nat} {u : SX} {v : SY} (I : i_Rel k u v) (hk : k + 4 ≤ 2048) (v1 : Int32) : wpX_shorten (fun r u' => wpY_shorten (fun r' v' => r' = r ∧ i_Rel (k + 4) u' v') v v1) u v1 := by
  obtain ⟨c, g⟩ := u
  obtain ⟨g', t⟩ := v
  obtain ⟨e, L, H⟩ := I
  cases e
  unfold wpX_shorten wpY_shorten
  dsimp only
  rcases pz_pat v1 with hp | ⟨p, hp, rfl⟩
  · exact pz_X_pat0 hp (br_t rfl (pz_Y_pat0 hp (br_t rfl ⟨rfl, rfl, L, H⟩)))
  · obtain ⟨a, g', hX, hY, hR⟩ := pz_take H (k + 4) (l := p) (by omega)
    exact pz_X_pat1 hp (br_f (by decide) (hX _ (pz_Y_pat1 hp (br_f (by decide) (hY _ ⟨rfl, hR⟩)))))
theorem i_vc_grow {k : Nat} {u : SX} {v : SY} (I : i_Rel k u v) (hk : k + 4 ≤ 2048) (v1 : Int32) : wpX_grow (fun r u' => wpY_grow (fun r' v' => r' = r ∧ i_Rel (k + 4) u' v') v v1) u v1 := by
  obtain ⟨c, g⟩ := u
  obtain ⟨g', t⟩ := v
  obtain ⟨e, L, H⟩ := I
  cases e
  unfold wpX_grow wpY_grow
  dsimp only
  rcases pk_ix v1 (n := 7) (by decide) with h | h | ⟨j, hj, rfl⟩
  · exact br_t h (br_t h ⟨rfl, rfl, L, H⟩)
  · have h0 : ¬ v1 < 0 := fun w => absurd (Int32.lt_of_lt_of_le w (Int32.le_trans (by decide : (0 : Int32) ≤ nI 7) h)) (Int32.lt_irrefl)
    exact br_f h0 (br_f (Int32.not_lt.mpr h) (br_f h0 (br_t (pz_lt_of_le (a := 6) v1 (by decide) (by decide) h) ⟨rfl, rfl, L, H⟩)))
  · obtain ⟨a, c', g', t', hX, hY, hR⟩ := pz_app H (k + 4) (l := 4) (r := 25) (Or.inr ⟨rfl, rfl⟩) (j := j) (by omega)
    have h7 : nI j < 7 := nI_lt (b := 7) hj (by decide)
    have h6 : ¬ 6 < nI j := nI_nlt (a := 6) (b := j) (by omega) (by decide)
    exact br_f (nI_pos (by omega)) (br_t h7 (hX _ (br_f (nI_pos (by omega)) (br_f h6 (hY _ ⟨rfl, hR⟩)))))
theorem i_vc_prune {k : Nat} {u : SX} {v : SY} (I : i_Rel k u v) (hk : k + 4 ≤ 2048) : wpX_prune (fun r u' => wpY_prune (fun r' v' => r' = r ∧ i_Rel (k + 4) u' v') v) u := by
  obtain ⟨c, g⟩ := u
  obtain ⟨g', t⟩ := v
  obtain ⟨e, L, H⟩ := I
  cases e
  unfold wpX_prune wpY_prune
  dsimp only
  obtain ⟨a, g', hX, hY, hR⟩ := pz_take H (k + 4) (l := 4) (by omega)
  exact hX _ (hY _ ⟨rfl, hR⟩)
theorem i_vc_complete {k : Nat} {u : SX} {v : SY} (I : i_Rel k u v) (hk : k + 4 ≤ 2048) (v1 : Int32) : wpX_complete (fun r => wpY_complete (fun r' => r' = r ∧ i_Rel (k + 4) u v) v v1) u v1 := by
  obtain ⟨c, g⟩ := u
  obtain ⟨g', t⟩ := v
  obtain ⟨e, L, H⟩ := I
  cases e
  unfold wpX_complete wpY_complete
  dsimp only
  rcases pz_pat v1 with hp | ⟨p, hp, rfl⟩
  · exact pz_X_pat0 hp (br_t rfl (pz_Y_pat0 hp (br_t rfl ⟨rfl, rfl, L, H⟩)))
  · refine pz_X_pat1 hp (br_f (by decide) (pz_X_comp H (by omega) ?_))
    rcases pz_cm01 t L p with h | h
    · exact br_t h (pz_Y_pat1 hp (br_f (by decide) (pz_Y_done H (by omega) (br_t h ⟨rfl, rfl, L, H⟩))))
    · have h' : ¬ pz_cm t L p = 0 := by rw [h]; decide
      exact br_f h' (pz_Y_pat1 hp (br_f (by decide) (pz_Y_done H (by omega) (br_f h' ⟨rfl, rfl, L, H⟩))))
theorem pz_nar {x : Int32} (h : x = 0 ∨ x = 1) : narrow .boolean (.int x) = .int x := by
  rcases h with h | h <;> rw [h] <;> rfl
theorem pz_X_whole {c g t : Nat → Int32} {L : Nat → Nat} (H : pz_R c g t L) {post : Int32 → Prop} (h : post (pz_cm t L 4)) : wpX_whole post (c, g) := by
  unfold wpX_whole
  dsimp only
  exact pz_X_comp H (l := 4) (by decide) ⟨pz_nar (pz_cm01 t L 4), h⟩
theorem i_vc_whole {k : Nat} {u : SX} {v : SY} (I : i_Rel k u v) (hk : k + 4 ≤ 2048) : wpX_whole (fun r => wpY_whole (fun r' => r' = r ∧ i_Rel (k + 4) u v) v) u := by
  obtain ⟨c, g⟩ := u
  obtain ⟨g', t⟩ := v
  obtain ⟨e, L, H⟩ := I
  cases e
  refine pz_X_whole H ?_
  unfold wpY_whole
  dsimp only
  exact pz_Y_done H (l := 4) (by decide) ⟨pz_nar (pz_cm01 t L 4), rfl, rfl, L, H⟩
end
