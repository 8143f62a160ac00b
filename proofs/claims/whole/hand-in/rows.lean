section
theorem pk_us {f : Nat → Int32} {k : Nat} {x : Int32} : upd f k x k = x := if_pos rfl
theorem pk_un {f : Nat → Int32} {k j : Nat} {x : Int32} (h : j ≠ k) : upd f k x j = f j := if_neg h
theorem pk_sub {a b : Nat} (h : b ≤ a) : nI a - nI b = nI (a - b) := by
  obtain ⟨c, rfl⟩ : ∃ c, a = c + b := ⟨a - b, by omega⟩
  rw [← nI_add, Int32.add_sub_cancel, Nat.add_sub_cancel]
theorem pk_mul (a b : Nat) : nI a * nI b = nI (a * b) := (Int32.ofNat_mul a b).symm
theorem pk_ix (x : Int32) {n : Nat} (hn : n < 2 ^ 31) : x < 0 ∨ nI n ≤ x ∨ ∃ j : Nat, j < n ∧ x = nI j := by
  by_cases h : x < 0
  · exact Or.inl h
  · obtain ⟨j, hj, rfl⟩ := nI_of h
    by_cases h2 : j < n
    · exact Or.inr (Or.inr ⟨j, h2, rfl⟩)
    · exact Or.inr (Or.inl (nI_le (by omega) hj))
theorem pk_le {x y : Int32} {A B : Prop} (a b : Nat) (f : a ≤ b → A) (g : b < a → B) (hx : x = nI a := by rfl) (hy : y = nI b := by rfl) (ha : a < 2 ^ 31 := by omega) (hb : b < 2 ^ 31 := by omega) : (x ≤ y → A) ∧ (¬ x ≤ y → B) := by
  subst hx hy
  rw [nI_leI ha hb]
  exact ⟨f, fun z => g (by omega)⟩
theorem pk_lt {x y : Int32} {A B : Prop} (a b : Nat) (f : a < b → A) (g : b ≤ a → B) (hx : x = nI a := by rfl) (hy : y = nI b := by rfl) (ha : a < 2 ^ 31 := by omega) (hb : b < 2 ^ 31 := by omega) : (x < y → A) ∧ (¬ x < y → B) := by
  subst hx hy
  rw [nI_ltI ha hb]
  exact ⟨f, fun z => g (by omega)⟩
theorem pk_eq {x y : Int32} {A B : Prop} (a b : Nat) (f : a = b → A) (g : a ≠ b → B) (hx : x = nI a := by rfl) (hy : y = nI b := by rfl) (ha : a < 2 ^ 31 := by omega) (hb : b < 2 ^ 31 := by omega) : (x = y → A) ∧ (¬ x = y → B) := by
  subst hx hy
  rw [nI_eq ha hb]
  exact ⟨f, g⟩
theorem pk_in {x : Int32} (n N : Nat) (h : n < N) (hx : x = nI n := by rfl) (hN : N < 2 ^ 31 := by omega) : vp_in x N := by
  subst hx
  exact vp_in_nI h hN
theorem pk_cl {x : Int32} (n : Nat) (hx : x = nI n := by rfl) (h : n < 2 ^ 31 := by omega) : x.toNatClampNeg = n := by
  subst hx
  exact nI_clamp h
theorem pk_tn {n : Nat} (h : n < 2 ^ 32) : (nI n).toBitVec.toNat = n := Nat.mod_eq_of_lt h
theorem pk_least (P : Nat → Prop) (h : ∃ k, P k) : ∃ k, P k ∧ ∀ j, j < k → ¬ P j := by
  obtain ⟨k, hk⟩ := h
  induction k using Nat.strongRecOn with
  | ind k ih =>
    by_cases e : ∃ j, j < k ∧ P j
    · obtain ⟨j, hj, pj⟩ := e
      exact ih j hj pj
    · exact ⟨k, hk, fun j hj pj => e ⟨j, hj, pj⟩⟩
def bt (x : Int32) (i : Nat) : Bool := x.toBitVec.getLsbD i
theorem b_ext {x y : Int32} (h : ∀ i, i < 32 → bt x i = bt y i) : x = y := Int32.toBitVec_inj.mp (BitVec.eq_of_getLsbD_eq (fun i hi => h i hi))
theorem b_or (x y : Int32) (i : Nat) : bt (x ||| y) i = (bt x i || bt y i) := by unfold bt; rw [Int32.toBitVec_or, BitVec.getLsbD_or]
theorem b_and (x y : Int32) (i : Nat) : bt (x &&& y) i = (bt x i && bt y i) := by unfold bt; rw [Int32.toBitVec_and, BitVec.getLsbD_and]
theorem b_0 (i : Nat) : bt 0 i = false := BitVec.getLsbD_zero
end
section
/-! the pure picture: list l has length L l and tokens t (25 * l + i), in the reference's place -/
def pz_pa (x : Int32) : Int32 := if x = 0 then 2 else if x = 1 then 2 else if x = 2 then 1 else if x = 3 then 1 else 0
def pz_F (t : Nat → Int32) (l : Nat) : Nat → Int32 := fun i => t (25 * l + i)
def pz_R (c g t : Nat → Int32) (L : Nat → Nat) : Prop :=
  (∀ l, l < 5 → g l = nI (L l)) ∧ (∀ l, l < 4 → L l ≤ 9) ∧ L 4 ≤ 25 ∧
  (∀ l i, l < 5 → i < L l → c (9 * l + i) = t (25 * l + i)) ∧
  (∀ l i, l < 5 → i < L l → ∃ j : Nat, j < 8 ∧ t (25 * l + i) = nI j)
def i_Rel (_ : Nat) (u : SX) (v : SY) : Prop := v.1 = u.2 ∧ ∃ L : Nat → Nat, pz_R u.1 u.2 v.2 L
theorem i_up {k : Nat} {u : SX} {v : SY} (h : i_Rel k u v) : i_Rel (k + 4) u v := h
theorem pz_zero : pz_R (fun _ => 0) (fun _ => 0) (fun _ => 0) (fun _ => 0) :=
  ⟨fun _ _ => rfl, fun _ _ => Nat.zero_le _, Nat.zero_le _, fun _ _ _ h => absurd h (Nat.not_lt_zero _), fun _ _ _ h => absurd h (Nat.not_lt_zero _)⟩
theorem i_vc0 : wpX_init (fun u => wpY_init (fun v => i_Rel 0 u v)) := ⟨rfl, (fun _ => 0), pz_zero⟩
section
variable {c g t : Nat → Int32} {L : Nat → Nat}
theorem pz_L25 (H : pz_R c g t L) {l : Nat} (hl : l < 5) : L l ≤ 25 := by
  rcases Nat.lt_or_ge l 4 with h | h
  · exact Nat.le_trans (H.2.1 l h) (by decide)
  · have : l = 4 := by omega
    subst this
    exact H.2.2.1
theorem pz_iX (H : pz_R c g t L) {l i : Nat} (hl : l < 5) (hi : i < L l) : 9 * l + i < 61 := by
  rcases Nat.lt_or_ge l 4 with h | h
  · have := H.2.1 l h
    omega
  · have : l = 4 := by omega
    subst this
    have := H.2.2.1
    omega
theorem pz_iY (H : pz_R c g t L) {l i : Nat} (hl : l < 5) (hi : i < L l) : 25 * l + i < 125 := by
  have := pz_L25 H hl
  omega
theorem pz_gl (H : pz_R c g t L) {l : Nat} (hl : l < 5) : g (nI l).toNatClampNeg = nI (L l) := by
  rw [nI_clamp (by omega)]
  exact H.1 l hl
theorem pz_eX (l i : Nat) : nI l * 9 + nI i = nI (9 * l + i) := by
  rw [show (9 : Int32) = nI 9 from rfl, pk_mul, nI_add, Nat.mul_comm]
theorem pz_eY (l i : Nat) : 25 * nI l + nI i = nI (25 * l + i) := by
  rw [show (25 : Int32) = nI 25 from rfl, pk_mul, nI_add]
theorem pz_tok (H : pz_R c g t L) {l i : Nat} (hl : l < 5) (hi : i < L l) {post : Int32 → Prop} (h : post (pz_F t l i)) : wpX_tokenAt post (c, g) (nI l) (nI i) := by
  have hb := pz_iX H hl hi
  have hL := pz_L25 H hl
  have e : c (nI l * 9 + nI i).toNatClampNeg = pz_F t l i := by
    rw [pz_eX, nI_clamp (by omega)]
    exact H.2.2.2.1 l i hl hi
  have hv : vp_in (nI l * 9 + nI i) 61 := by
    rw [pz_eX]
    exact vp_in_nI hb (by decide)
  have hn : ¬ g (nI l).toNatClampNeg ≤ nI i := by
    rw [pz_gl H hl]
    exact nI_ge hi (by omega)
  refine br_f (nI_pos (by omega)) (And.intro (vp_in_nI hl (by decide)) (br_f hn (br_f (by decide) (And.intro hv ?_))))
  rw [e]
  exact h
theorem pz_tokN (H : pz_R c g t L) {l i : Nat} (hl : l < 5) (hi : L l ≤ i) (h31 : i < 2 ^ 31) {post : Int32 → Prop} (h : post (-1)) : wpX_tokenAt post (c, g) (nI l) (nI i) := by
  have hn : g (nI l).toNatClampNeg ≤ nI i := by
    rw [pz_gl H hl]
    exact nI_le hi h31
  exact br_f (nI_pos h31) (And.intro (vp_in_nI hl (by decide)) (br_t hn (br_t rfl h)))
theorem pz_X_parts {post : Int32 → Prop} {x : Int32} (h : post (pz_pa x)) : wpX_partsOf post x := by
  unfold pz_pa at h
  by_cases a : x = 0
  · rw [if_pos a] at h; exact br_t a h
  rw [if_neg a] at h
  by_cases b : x = 1
  · rw [if_pos b] at h; exact br_f a (br_t b h)
  rw [if_neg b] at h
  by_cases d : x = 2
  · rw [if_pos d] at h; exact br_f a (br_f b (br_t d h))
  rw [if_neg d] at h
  by_cases e : x = 3
  · rw [if_pos e] at h; exact br_f a (br_f b (br_f d (br_t e h)))
  rw [if_neg e] at h
  exact br_f a (br_f b (br_f d (br_f e h)))
theorem pz_pa8 : ∀ j, j < 8 → (1 < nI j ∧ 3 < nI j ∧ pz_pa (nI j) = 0) ∨ (1 < nI j ∧ ¬ 3 < nI j ∧ pz_pa (nI j) = 1) ∨ (¬ 1 < nI j ∧ pz_pa (nI j) = 2) := by decide +kernel
theorem pz_Y_parts {post : Int32 → Prop} {j : Nat} (hj : j < 8) (h : post (pz_pa (nI j))) : wpY_parts post (g, t) (nI j) := by
  rcases pz_pa8 j hj with ⟨a, b, e⟩ | ⟨a, b, e⟩ | ⟨a, e⟩
  · rw [e] at h; exact br_t a (br_t b h)
  · rw [e] at h; exact br_t a (br_f b h)
  · rw [e] at h; exact br_f a h
theorem pz_Y_partsF (H : pz_R c g t L) {l i : Nat} (hl : l < 5) (hi : i < L l) {post : Int32 → Prop} (h : post (pz_pa (pz_F t l i))) : wpY_parts post (g, t) (t (25 * nI l + nI i).toNatClampNeg) := by
  have hb := pz_iY H hl hi
  obtain ⟨j, hj, e⟩ := H.2.2.2.2 l i hl hi
  rw [pz_eY, nI_clamp (by omega), e]
  refine pz_Y_parts hj ?_
  rw [← e]
  exact h
theorem pz_inY (H : pz_R c g t L) {l i : Nat} (hl : l < 5) (hi : i < L l) : vp_in (25 * nI l + nI i) 125 := by
  rw [pz_eY]
  exact vp_in_nI (pz_iY H hl hi) (by decide)
theorem pz_tY (H : pz_R c g t L) {l i : Nat} (hl : l < 5) (hi : i < L l) : t (25 * nI l + nI i).toNatClampNeg = pz_F t l i := by
  have hb := pz_iY H hl hi
  rw [pz_eY, nI_clamp (by omega)]
  rfl
theorem pz_neM (H : pz_R c g t L) {l i : Nat} (hl : l < 5) (hi : i < L l) : ¬ pz_F t l i = -1 := by
  obtain ⟨j, hj, e⟩ := H.2.2.2.2 l i hl hi
  intro z
  have : nI j = -1 := e.symm.trans z
  exact (by decide +kernel : ∀ j, j < 8 → ¬ nI j = -1) j hj this
/-! complete: what is missing -/
def pz_ms (F : Nat → Int32) : Nat → Int32
  | 0 => 1
  | k + 1 => pz_ms F k + (pz_pa (F k) - 1)
def pz_cm (t : Nat → Int32) (L : Nat → Nat) (l : Nat) : Int32 := if pz_ms (pz_F t l) (L l) = 0 then 1 else 0
theorem pz_cm01 (t : Nat → Int32) (L : Nat → Nat) (l : Nat) : pz_cm t L l = 0 ∨ pz_cm t L l = 1 := by
  unfold pz_cm
  by_cases z : pz_ms (pz_F t l) (L l) = 0
  · rw [if_pos z]; exact Or.inr rfl
  · rw [if_neg z]; exact Or.inl rfl
theorem pz_cmE {post : Int32 → Prop} {t : Nat → Int32} {L : Nat → Nat} {l : Nat} (h : post (pz_cm t L l)) : (pz_ms (pz_F t l) (L l) = 0 → post 1) ∧ (¬ pz_ms (pz_F t l) (L l) = 0 → post 0) := by
  unfold pz_cm at h
  by_cases z : pz_ms (pz_F t l) (L l) = 0
  · rw [if_pos z] at h; exact br_t z h
  · rw [if_neg z] at h; exact br_f z h
theorem pz_X_comp (H : pz_R c g t L) {l : Nat} (hl : l < 5) {post : Int32 → Prop} (h : post (pz_cm t L l)) : wpX_isComplete post (c, g) (nI l) := by
  have hL := pz_L25 H hl
  have key : ∀ d k n, k + d = L l → d < n → wX_isComplete_4 post (nI l) c g n (pz_ms (pz_F t l) k) (nI k) := by
    intro d
    induction d with
    | zero =>
      intro k n hk hn
      obtain ⟨n, rfl⟩ : ∃ m, n = m + 1 := ⟨n - 1, by omega⟩
      have hk' : k = L l := by omega
      subst hk'
      have hle : g (nI l).toNatClampNeg ≤ nI (L l) := by rw [pz_gl H hl]; exact nI_le (Nat.le_refl _) (by omega)
      exact And.intro (vp_in_nI hl (by decide)) (br_t hle (pz_cmE h))
    | succ d ih =>
      intro k n hk hn
      obtain ⟨n, rfl⟩ : ∃ m, n = m + 1 := ⟨n - 1, by omega⟩
      have hle : ¬ g (nI l).toNatClampNeg ≤ nI k := by rw [pz_gl H hl]; exact nI_ge (by omega) (by omega)
      refine And.intro (vp_in_nI hl (by decide)) (br_f hle (pz_tok H hl (by omega) (pz_X_parts ?_)))
      intro x2 e2 x3 e3
      subst e2 e3
      have := ih (k + 1) n (by omega) (by omega)
      rw [← nI_1] at this
      exact this
  exact ⟨L l + 1, key (L l) 0 _ (by omega) (by omega)⟩
theorem pz_Y_done (H : pz_R c g t L) {l : Nat} (hl : l < 5) {post : Int32 → Prop} (h : post (pz_cm t L l)) : wpY_done post (g, t) (nI l) := by
  have hL := pz_L25 H hl
  have key : ∀ d k n, k + d = L l → d < n → wY_done_4 post (nI l) g t n (pz_ms (pz_F t l) k) (nI k) := by
    intro d
    induction d with
    | zero =>
      intro k n hk hn
      obtain ⟨n, rfl⟩ : ∃ m, n = m + 1 := ⟨n - 1, by omega⟩
      have hk' : k = L l := by omega
      subst hk'
      have hle : g (nI l).toNatClampNeg ≤ nI (L l) := by rw [pz_gl H hl]; exact nI_le (Nat.le_refl _) (by omega)
      exact And.intro (vp_in_nI hl (by decide)) (br_t hle (pz_cmE h))
    | succ d ih =>
      intro k n hk hn
      obtain ⟨n, rfl⟩ : ∃ m, n = m + 1 := ⟨n - 1, by omega⟩
      have hle : ¬ g (nI l).toNatClampNeg ≤ nI k := by rw [pz_gl H hl]; exact nI_ge (by omega) (by omega)
      refine And.intro (vp_in_nI hl (by decide)) (br_f hle (And.intro (pz_inY H hl (by omega)) (pz_Y_partsF H hl (by omega) ?_)))
      intro x2 e2 x3 e3
      have e : x2 = pz_ms (pz_F t l) (k + 1) := by
        rw [e2]
        show _ = pz_ms (pz_F t l) k + (pz_pa (pz_F t l k) - 1)
        generalize pz_ms (pz_F t l) k = a
        generalize pz_pa (pz_F t l k) = b
        grind
      subst e e3
      have := ih (k + 1) n (by omega) (by omega)
      rw [← nI_1] at this
      exact this
  exact ⟨L l + 1, key (L l) 0 _ (by omega) (by omega)⟩
end
end
section
/-! the end of a part; a pattern laid on a list -/
def pz_pe (F : Nat → Int32) : Nat → Int32 → Nat → Nat
  | 0, _, e => e
  | d + 1, m, e => if m ≤ 0 then e else pz_pe F d (m + (pz_pa (F e) - 1)) (e + 1)
theorem pz_pe_b (F : Nat → Int32) : ∀ d m e, e ≤ pz_pe F d m e ∧ pz_pe F d m e ≤ e + d := by
  intro d
  induction d with
  | zero => intro m e; exact ⟨Nat.le_refl _, Nat.le_refl _⟩
  | succ d ih =>
    intro m e
    unfold pz_pe
    by_cases z : m ≤ 0
    · rw [if_pos z]; omega
    · rw [if_neg z]
      have := ih (m + (pz_pa (F e) - 1)) (e + 1)
      omega
def pz_end (t : Nat → Int32) (L : Nat → Nat) (l e : Nat) : Nat := pz_pe (pz_F t l) (L l - e) 1 e
theorem pz_end_b {t : Nat → Int32} {L : Nat → Nat} {l e : Nat} (h : e ≤ L l) : e ≤ pz_end t L l e ∧ pz_end t L l e ≤ L l := by
  have := pz_pe_b (pz_F t l) (L l - e) 1 e
  unfold pz_end
  omega
def pz_lz (t : Nat → Int32) (L : Nat → Nat) (p l n : Nat) : Nat → Option Nat
  | 0 => some n
  | k + 1 => match pz_lz t L p l n k with
    | none => none
    | some a => if pz_F t p k = 7 then some (pz_end t L l a) else if a < L l ∧ pz_F t l a = pz_F t p k then some (a + 1) else none
theorem pz_lz_g {t : Nat → Int32} {L : Nat → Nat} {p l n k a : Nat} (h : pz_lz t L p l n k = some a) (h7 : pz_F t p k = 7) : pz_lz t L p l n (k + 1) = some (pz_end t L l a) := by
  simp only [pz_lz, h, h7, if_true]
theorem pz_lz_s {t : Nat → Int32} {L : Nat → Nat} {p l n k a : Nat} (h : pz_lz t L p l n k = some a) (h7 : ¬ pz_F t p k = 7) (ha : a < L l) (he : pz_F t l a = pz_F t p k) : pz_lz t L p l n (k + 1) = some (a + 1) := by
  simp only [pz_lz, h]
  rw [if_neg h7, if_pos ⟨ha, he⟩]
theorem pz_lz_f {t : Nat → Int32} {L : Nat → Nat} {p l n k a : Nat} (h : pz_lz t L p l n k = some a) (h7 : ¬ pz_F t p k = 7) (he : ¬ (a < L l ∧ pz_F t l a = pz_F t p k)) : pz_lz t L p l n (k + 1) = none := by
  simp only [pz_lz, h]
  rw [if_neg h7, if_neg he]
theorem pz_lz_n {t : Nat → Int32} {L : Nat → Nat} {p l n k : Nat} (h : pz_lz t L p l n k = none) : ∀ d, pz_lz t L p l n (k + d) = none := by
  intro d
  induction d with
  | zero => exact h
  | succ d ih =>
    show pz_lz t L p l n ((k + d) + 1) = none
    simp only [pz_lz, ih]
theorem pz_lz_le {t : Nat → Int32} {L : Nat → Nat} {p l n : Nat} (hn : n ≤ L l) : ∀ k a, pz_lz t L p l n k = some a → a ≤ L l := by
  intro k
  induction k with
  | zero =>
    intro a h
    have h' : some n = some a := h
    cases h'
    exact hn
  | succ k ih =>
    intro a h
    cases e : pz_lz t L p l n k with
    | none => rw [pz_lz_n e 1] at h; cases h
    | some b =>
      have hb := ih b e
      by_cases h7 : pz_F t p k = 7
      · rw [pz_lz_g e h7] at h
        cases h
        exact (pz_end_b hb).2
      · by_cases he : b < L l ∧ pz_F t l b = pz_F t p k
        · rw [pz_lz_s e h7 he.1 he.2] at h
          cases h
          omega
        · rw [pz_lz_f e h7 he] at h
          cases h
def pz_ov : Option Nat → Int32
  | none => -1
  | some a => nI a
def pz_bv : Option Nat → Int32
  | none => 0
  | some _ => 1
section
variable {c g t : Nat → Int32} {L : Nat → Nat}
theorem pz_X_pe (H : pz_R c g t L) {l : Nat} (hl : l < 5) {post : Int32 → Prop} : ∀ d n m e, L l - e = d → d < n → e < 2 ^ 30 → post (nI (pz_pe (pz_F t l) d m e)) → wX_partEnd_5 post (nI l) c g n m (nI e) := by
  have hL := pz_L25 H hl
  intro d
  induction d with
  | zero =>
    intro n m e hd hn h30 h
    obtain ⟨n, rfl⟩ : ∃ m, n = m + 1 := ⟨n - 1, by omega⟩
    have hle : g (nI l).toNatClampNeg ≤ nI e := by rw [pz_gl H hl]; exact nI_le (by omega) (by omega)
    by_cases z : m ≤ 0
    · exact br_t z h
    · exact br_f z (And.intro (vp_in_nI hl (by decide)) (br_t hle h))
  | succ d ih =>
    intro n m e hd hn h30 h
    obtain ⟨n, rfl⟩ : ∃ m, n = m + 1 := ⟨n - 1, by omega⟩
    have hle : ¬ g (nI l).toNatClampNeg ≤ nI e := by rw [pz_gl H hl]; exact nI_ge (by omega) (by omega)
    unfold pz_pe at h
    by_cases z : m ≤ 0
    · rw [if_pos z] at h
      exact br_t z h
    · rw [if_neg z] at h
      refine br_f z (And.intro (vp_in_nI hl (by decide)) (br_f hle (pz_tok H hl (by omega) (pz_X_parts ?_))))
      intro x3 e3 x4 e4
      subst e3 e4
      rw [nI_1]
      exact ih n _ (e + 1) (by omega) (by omega) (by omega) h
theorem pz_X_end (H : pz_R c g t L) {l e : Nat} (hl : l < 5) (he : e < 2 ^ 30) {post : Int32 → Prop} (h : post (nI (pz_end t L l e))) : wpX_partEnd post (c, g) (nI l) (nI e) :=
  ⟨L l - e + 1, pz_X_pe H hl (L l - e) _ 1 e rfl (by omega) he h⟩
theorem pz_Y_pe (H : pz_R c g t L) {l : Nat} (hl : l < 5) {post : Int32 → Prop} : ∀ d n m e, L l - e = d → d < n → e < 2 ^ 30 → post (nI (pz_pe (pz_F t l) d m e)) → wY_behind_5 post (nI l) g t n m (nI e) := by
  have hL := pz_L25 H hl
  intro d
  induction d with
  | zero =>
    intro n m e hd hn h30 h
    obtain ⟨n, rfl⟩ : ∃ m, n = m + 1 := ⟨n - 1, by omega⟩
    have hle : g (nI l).toNatClampNeg ≤ nI e := by rw [pz_gl H hl]; exact nI_le (by omega) (by omega)
    by_cases z : m ≤ 0
    · exact br_t z h
    · exact br_f z (And.intro (vp_in_nI hl (by decide)) (br_t hle h))
  | succ d ih =>
    intro n m e hd hn h30 h
    obtain ⟨n, rfl⟩ : ∃ m, n = m + 1 := ⟨n - 1, by omega⟩
    have hle : ¬ g (nI l).toNatClampNeg ≤ nI e := by rw [pz_gl H hl]; exact nI_ge (by omega) (by omega)
    unfold pz_pe at h
    by_cases z : m ≤ 0
    · rw [if_pos z] at h
      exact br_t z h
    · rw [if_neg z] at h
      refine br_f z (And.intro (vp_in_nI hl (by decide)) (br_f hle (And.intro (pz_inY H hl (by omega)) (pz_Y_partsF H hl (by omega) ?_))))
      intro x3 e3 x4 e4
      have e5 : x3 = m + (pz_pa (pz_F t l e) - 1) := by
        rw [e3]
        generalize pz_pa (pz_F t l e) = b
        grind
      subst e5 e4
      rw [nI_1]
      exact ih n _ (e + 1) (by omega) (by omega) (by omega) h
theorem pz_Y_end (H : pz_R c g t L) {l e : Nat} (hl : l < 5) (he : e < 2 ^ 30) {post : Int32 → Prop} (h : post (nI (pz_end t L l e))) : wpY_behind post (g, t) (nI l) (nI e) :=
  ⟨L l - e + 1, pz_Y_pe H hl (L l - e) _ 1 e rfl (by omega) he h⟩
theorem pz_Y_lies (H : pz_R c g t L) {p l n b : Nat} (hp : p < 5) (hl : l < 5) (hn : n ≤ L l) (hb : b ≤ L p) {post : Int32 → Prop} (h : post (pz_ov (pz_lz t L p l n b))) : wpY_lies post (g, t) (nI p) (nI l) (nI n) (nI b) := by
  have hL := pz_L25 H hl
  have hP := pz_L25 H hp
  have key : ∀ d k f a, k + d = b → d < f → pz_lz t L p l n k = some a → wY_lies_6 post (nI p) (nI l) (nI b) g t f (nI a) (nI k) := by
    intro d
    induction d with
    | zero =>
      intro k f a hk hf hz
      obtain ⟨f, rfl⟩ : ∃ m, f = m + 1 := ⟨f - 1, by omega⟩
      have hk' : k = b := by omega
      subst hk'
      rw [hz] at h
      exact br_t (nI_le (Nat.le_refl _) (by omega)) h
    | succ d ih =>
      intro k f a hk hf hz
      obtain ⟨f, rfl⟩ : ∃ m, f = m + 1 := ⟨f - 1, by omega⟩
      have ha := pz_lz_le hn k a hz
      refine br_f (nI_ge (by omega) (by omega)) (And.intro (pz_inY H hp (by omega)) ?_)
      intro x7 e7
      rw [pz_tY H hp (by omega)] at e7
      subst e7
      by_cases h7 : pz_F t p k = 7
      · refine br_t h7 (pz_Y_end H hl (by omega) ?_)
        intro x6 e6
        subst e6
        rw [nI_1]
        exact ih (k + 1) f _ (by omega) (by omega) (pz_lz_g hz h7)
      · refine br_f h7 (And.intro (vp_in_nI hl (by decide)) ?_)
        by_cases hal : a < L l
        · have hle : ¬ g (nI l).toNatClampNeg ≤ nI a := by rw [pz_gl H hl]; exact nI_ge hal (by omega)
          refine br_f hle (And.intro (pz_inY H hl hal) ?_)
          rw [pz_tY H hl hal]
          by_cases he : pz_F t l a = pz_F t p k
          · refine br_t he ?_
            intro x5 e5 x6 e6
            subst e5 e6
            rw [nI_1, nI_1]
            exact ih (k + 1) f _ (by omega) (by omega) (pz_lz_s hz h7 hal he)
          · refine br_f he ?_
            have := pz_lz_n (pz_lz_f hz h7 (fun w => he w.2)) d
            rw [show k + 1 + d = b by omega] at this
            rw [this] at h
            exact h
        · have hle : g (nI l).toNatClampNeg ≤ nI a := by rw [pz_gl H hl]; exact nI_le (by omega) (by omega)
          refine br_t hle ?_
          have := pz_lz_n (pz_lz_f hz h7 (fun w => hal w.1)) d
          rw [show k + 1 + d = b by omega] at this
          rw [this] at h
          exact h
  exact ⟨b + 1, key b 0 _ n (by omega) (by omega) rfl⟩
theorem pz_X_walk (H : pz_R c g t L) {p l n : Nat} (hp : p < 5) (hl : l < 5) (hn : n ≤ L l) {post : Int32 → Prop} (h : post (pz_bv (pz_lz t L p l n (L p)))) : ∃ f, wX_fits_33 post (nI p) (nI l) c g f (nI n) 0 := by
  have hL := pz_L25 H hl
  have hP := pz_L25 H hp
  have key : ∀ d k f a, k + d = L p → d < f → pz_lz t L p l n k = some a → wX_fits_33 post (nI p) (nI l) c g f (nI a) (nI k) := by
    intro d
    induction d with
    | zero =>
      intro k f a hk hf hz
      obtain ⟨f, rfl⟩ : ∃ m, f = m + 1 := ⟨f - 1, by omega⟩
      have hk' : k = L p := by omega
      subst hk'
      rw [hz] at h
      have hle : g (nI p).toNatClampNeg ≤ nI (L p) := by rw [pz_gl H hp]; exact nI_le (Nat.le_refl _) (by omega)
      exact And.intro (vp_in_nI hp (by decide)) (br_t hle h)
    | succ d ih =>
      intro k f a hk hf hz
      obtain ⟨f, rfl⟩ : ∃ m, f = m + 1 := ⟨f - 1, by omega⟩
      have ha := pz_lz_le hn k a hz
      have hle : ¬ g (nI p).toNatClampNeg ≤ nI k := by rw [pz_gl H hp]; exact nI_ge (by omega) (by omega)
      refine And.intro (vp_in_nI hp (by decide)) (br_f hle (pz_tok H hp (by omega) ?_))
      by_cases h7 : pz_F t p k = 7
      · refine br_t h7 (pz_X_end H hl (by omega) ?_)
        intro x6 e6
        subst e6
        rw [nI_1]
        exact ih (k + 1) f _ (by omega) (by omega) (pz_lz_g hz h7)
      · refine br_f h7 ?_
        have fin : pz_lz t L p l n (k + 1) = none → post 0 := by
          intro w
          have := pz_lz_n w d
          rw [show k + 1 + d = L p by omega] at this
          rw [this] at h
          exact h
        by_cases hal : a < L l
        · refine pz_tok H hl hal ?_
          by_cases he : pz_F t p k = pz_F t l a
          · refine br_t he ?_
            intro x5 e5 x6 e6
            subst e5 e6
            rw [nI_1, nI_1]
            exact ih (k + 1) f _ (by omega) (by omega) (pz_lz_s hz h7 hal he.symm)
          · exact br_f he (fin (pz_lz_f hz h7 (fun w => he w.2.symm)))
        · refine pz_tokN H hl (by omega) (by omega) ?_
          exact br_f (pz_neM H hp (by omega)) (fin (pz_lz_f hz h7 (fun w => hal w.1)))
  exact ⟨L p + 1, key (L p) 0 _ n (by omega) (by omega) rfl⟩
/-! fits -/
def pz_fi (t : Nat → Int32) (L : Nat → Nat) (p l n : Nat) : Int32 := if n < L l ∧ pz_cm t L p = 1 ∧ pz_cm t L l = 1 then pz_bv (pz_lz t L p l n (L p)) else 0
theorem pz_X_fits (H : pz_R c g t L) {p l n : Nat} (hp : p < 5) (hl : l < 5) (hn : n < 2 ^ 31) {post : Int32 → Prop} (h : post (pz_fi t L p l n)) : wpX_fits post (c, g) (nI p) (nI l) (nI n) := by
  have hL := pz_L25 H hl
  unfold pz_fi at h
  by_cases h1 : n < L l
  · have hle : ¬ g (nI l).toNatClampNeg ≤ nI n := by rw [pz_gl H hl]; exact nI_ge h1 (by omega)
    refine br_f (nI_pos hn) (And.intro (vp_in_nI hl (by decide)) (br_f hle (br_f (by decide) (pz_X_comp H hp ?_))))
    rcases pz_cm01 t L p with h2 | h2
    · rw [if_neg (fun w => by rw [h2] at w; exact absurd w.2.1 (by decide))] at h
      exact br_t h2 h
    · refine br_f (by rw [h2]; decide) (pz_X_comp H hl ?_)
      rcases pz_cm01 t L l with h3 | h3
      · rw [if_neg (fun w => by rw [h3] at w; exact absurd w.2.2 (by decide))] at h
        exact br_t h3 h
      · rw [if_pos ⟨h1, h2, h3⟩] at h
        exact br_f (by rw [h3]; decide) (pz_X_walk H hp hl (by omega) h)
  · have hle : g (nI l).toNatClampNeg ≤ nI n := by rw [pz_gl H hl]; exact nI_le (by omega) hn
    rw [if_neg (fun w => h1 w.1)] at h
    exact br_f (nI_pos hn) (And.intro (vp_in_nI hl (by decide)) (br_t hle (br_t rfl h)))
theorem pz_ov_lt {o : Option Nat} {post : Int32 → Prop} (hb : ∀ a, o = some a → a < 2 ^ 31) (h : post (pz_bv o)) : (pz_ov o < 0 → post 0) ∧ (¬ pz_ov o < 0 → post 1) := by
  cases o with
  | none => exact br_t (by decide) h
  | some a => exact br_f (nI_pos (hb a rfl)) h
theorem pz_Y_fits (H : pz_R c g t L) {p n : Nat} (hp : p < 5) (hn : n < 2 ^ 31) {post : Int32 → Prop} (h : post (pz_fi t L p 4 n)) : wpY_fits post (g, t) (nI p) (nI n) := by
  have hL := H.2.2.1
  unfold pz_fi at h
  refine pz_Y_done H hp ?_
  rcases pz_cm01 t L p with h2 | h2
  · rw [if_neg (fun w => by rw [h2] at w; exact absurd w.2.1 (by decide))] at h
    exact br_t h2 h
  · refine br_f (by rw [h2]; decide) (pz_Y_done H (l := 4) (by decide) ?_)
    rcases pz_cm01 t L 4 with h3 | h3
    · rw [if_neg (fun w => by rw [h3] at w; exact absurd w.2.2 (by decide))] at h
      exact br_t h3 (br_t rfl h)
    · refine br_f (by rw [h3]; decide) (br_f (nI_pos hn) ?_)
      by_cases h1 : n < L 4
      · have hle : ¬ g 4 ≤ nI n := by rw [H.1 4 (by decide)]; exact nI_ge h1 (by omega)
        rw [if_pos ⟨h1, h2, h3⟩] at h
        refine br_f hle (br_f (by decide) (And.intro (vp_in_nI hp (by decide)) ?_))
        rw [pz_gl H hp]
        exact pz_Y_lies H hp (l := 4) (by decide) (by omega) (Nat.le_refl _) (pz_ov_lt (fun a ha => by have := pz_lz_le (l := 4) (by omega) _ a ha; omega) h)
      · have hle : g 4 ≤ nI n := by rw [H.1 4 (by decide)]; exact nI_le (by omega) hn
        rw [if_neg (fun w => h1 w.1)] at h
        exact br_t hle (br_t rfl h)
/-- the same for every int -/
def pz_fa (t : Nat → Int32) (L : Nat → Nat) (p : Nat) (x : Int32) : Int32 := if x < 0 then 0 else pz_fi t L p 4 x.toNatClampNeg
theorem pz_fa_n {p n : Nat} (hn : n < 2 ^ 31) : pz_fa t L p (nI n) = pz_fi t L p 4 n := by
  unfold pz_fa
  rw [if_neg (nI_pos hn), nI_clamp hn]
theorem pz_X_fa (H : pz_R c g t L) {p : Nat} (hp : p < 5) (x : Int32) {post : Int32 → Prop} (h : post (pz_fa t L p x)) : wpX_fits post (c, g) (nI p) 4 x := by
  by_cases z : x < 0
  · unfold pz_fa at h
    rw [if_pos z] at h
    exact br_t z (br_t rfl h)
  · obtain ⟨n, hn, rfl⟩ := nI_of z
    rw [pz_fa_n hn] at h
    exact pz_X_fits H hp (l := 4) (by decide) hn h
theorem pz_Y_fa (H : pz_R c g t L) {p : Nat} (hp : p < 5) (x : Int32) {post : Int32 → Prop} (h : post (pz_fa t L p x)) : wpY_fits post (g, t) (nI p) x := by
  by_cases z : x < 0
  · unfold pz_fa at h
    rw [if_pos z] at h
    refine pz_Y_done H hp ?_
    rcases pz_cm01 t L p with h2 | h2
    · exact br_t h2 h
    · refine br_f (by rw [h2]; decide) (pz_Y_done H (l := 4) (by decide) ?_)
      rcases pz_cm01 t L 4 with h3 | h3
      · exact br_t h3 (br_t rfl h)
      · exact br_f (by rw [h3]; decide) (br_t z (br_t rfl h))
  · obtain ⟨n, hn, rfl⟩ := nI_of z
    rw [pz_fa_n hn] at h
    exact pz_Y_fits H hp hn h
end
end
section
/-! the calls that change the state -/
section
variable {c g t : Nat → Int32} {L : Nat → Nat}
theorem pz_X_pat1 {p : Nat} (hp : p < 4) {post : Int32 → Prop} (h : post 1) : wpX_isPattern post (nI p) :=
  br_f (nI_pos (by omega)) (br_f (nI_ge (b := 4) hp (by decide)) h)
theorem pz_Y_pat1 {p : Nat} (hp : p < 4) {post : Int32 → Prop} (h : post 1) : wpY_pattern post (g, t) (nI p) :=
  br_f (nI_pos (by omega)) (br_f (nI_nlt (a := 3) (b := p) (by omega) (by decide)) h)
theorem pz_X_pat0 {x : Int32} (hx : x < 0 ∨ nI 4 ≤ x) {post : Int32 → Prop} (h : post 0) : wpX_isPattern post x := by
  by_cases z : x < 0
  · exact br_t z h
  · exact br_f z (br_t (hx.resolve_left z) h)
theorem pz_lt_of_le {a b : Nat} (x : Int32) (hab : a < b) (hb : b < 2 ^ 31) (h : nI b ≤ x) : nI a < x := by
  have h1 := Int32.le_iff_toInt_le.mp h
  rw [nI_toInt hb] at h1
  apply Int32.lt_iff_toInt_lt.mpr
  rw [nI_toInt (by omega)]
  omega
theorem pz_Y_pat0 {x : Int32} (hx : x < 0 ∨ nI 4 ≤ x) {post : Int32 → Prop} (h : post 0) : wpY_pattern post (g, t) x := by
  by_cases z : x < 0
  · exact br_t z h
  · exact br_f z (br_t (pz_lt_of_le (a := 3) x (by decide) (by decide) (hx.resolve_left z)) h)
theorem pz_pat (x : Int32) : (x < 0 ∨ nI 4 ≤ x) ∨ ∃ p : Nat, p < 4 ∧ x = nI p := by
  rcases pk_ix x (n := 4) (by decide) with h | h | h
  · exact Or.inl (Or.inl h)
  · exact Or.inl (Or.inr h)
  · exact Or.inr h
theorem pz_X_full (H : pz_R c g t L) {l r : Nat} (hl : l < 5) (hr : r ≤ 25) {x : Int32} (hf : pz_cm t L l = 1 ∨ r ≤ L l) {post : Int32 → SX → Prop} (h : post (-2) (c, g)) : wpX_append post (c, g) (nI l) (nI r) x := by
  have hL := pz_L25 H hl
  refine And.intro (vp_in_nI hl (by decide)) ?_
  rw [pz_gl H hl]
  intro y ey
  subst ey
  by_cases z : r ≤ L l
  · exact br_t (nI_le z (by omega)) h
  · have h1 := hf.resolve_right z
    exact br_f (nI_ge (by omega) (by omega)) (pz_X_comp H hl (br_f (by rw [h1]; decide) h))
theorem pz_Y_full (H : pz_R c g t L) {l r : Nat} (hl : l < 5) (hr : r ≤ 25) {x : Int32} (hf : pz_cm t L l = 1 ∨ r ≤ L l) {post : Int32 → SY → Prop} (h : post (-2) (g, t)) : wpY_append post (g, t) (nI l) x (nI r) := by
  have hL := pz_L25 H hl
  refine pz_Y_done H hl ?_
  rcases pz_cm01 t L l with h1 | h1
  · have z : r ≤ L l := hf.resolve_left (by rw [h1]; decide)
    refine br_t h1 (And.intro (vp_in_nI hl (by decide)) ?_)
    rw [pz_gl H hl]
    exact br_f (nI_nlt z (by omega)) h
  · exact br_f (by rw [h1]; decide) h
theorem pz_X_add (H : pz_R c g t L) {l r : Nat} (hl : l < 5) (hr : r ≤ 25) {x : Int32} (hc : pz_cm t L l = 0) (hf : L l < r) (hi : 9 * l + L l < 61) {post : Int32 → SX → Prop} (h : post (nI (L l + 1)) (upd c (9 * l + L l) x, upd g l (nI (L l + 1)))) : wpX_append post (c, g) (nI l) (nI r) x := by
  have hL := pz_L25 H hl
  refine And.intro (vp_in_nI hl (by decide)) ?_
  rw [pz_gl H hl]
  intro y ey
  subst ey
  refine br_f (nI_ge (by omega) (by omega)) (pz_X_comp H hl (br_t hc ?_))
  rw [pz_eX]
  refine And.intro (vp_in_nI hi (by decide)) ?_
  intro a ea
  refine And.intro (vp_in_nI hl (by decide)) ?_
  intro b eb
  rw [nI_clamp (by omega)] at ea eb
  rw [nI_1] at eb
  rw [nI_1]
  subst ea eb
  exact h
theorem pz_Y_add (H : pz_R c g t L) {l r : Nat} (hl : l < 5) (hr : r ≤ 25) {x : Int32} (hc : pz_cm t L l = 0) (hf : L l < r) {post : Int32 → SY → Prop} (h : post (nI (L l + 1)) (upd g l (nI (L l + 1)), upd t (25 * l + L l) x)) : wpY_append post (g, t) (nI l) x (nI r) := by
  have hL := pz_L25 H hl
  refine pz_Y_done H hl (br_t hc (And.intro (vp_in_nI hl (by decide)) ?_))
  rw [pz_gl H hl, pz_eY]
  refine br_t (nI_lt hf (by omega)) (And.intro (vp_in_nI hl (by decide)) (And.intro (vp_in_nI (by omega) (by decide)) ?_))
  intro a ea
  refine And.intro (vp_in_nI hl (by decide)) (And.intro (vp_in_nI hl (by decide)) ?_)
  intro b eb
  refine And.intro (vp_in_nI hl (by decide)) ?_
  rw [nI_clamp (by omega)] at ea eb
  rw [nI_1] at eb
  subst ea eb
  rw [nI_clamp (by omega), pk_us]
  exact h
theorem pz_R_add (H : pz_R c g t L) {l r j : Nat} (hr : (l < 4 ∧ r = 9) ∨ (l = 4 ∧ r = 25)) (hf : L l < r) (hj : j < 8) : pz_R (upd c (9 * l + L l) (nI j)) (upd g l (nI (L l + 1))) (upd t (25 * l + L l) (nI j)) (fun m => if m = l then L l + 1 else L m) := by
  have hl : l < 5 := by omega
  have hLl := pz_L25 H hl
  refine ⟨?_, ?_, ?_, ?_, ?_⟩
  · intro m hm
    by_cases z : m = l
    · subst z; rw [pk_us]; simp only [if_true]
    · rw [pk_un z]; simp only [if_neg z]; exact H.1 m hm
  · intro m hm
    have := H.2.1 m hm
    by_cases z : m = l
    · subst z; simp only [if_true]; omega
    · simp only [if_neg z]; exact this
  · have := H.2.2.1
    by_cases z : 4 = l
    · subst z; simp only [if_true]; omega
    · simp only [if_neg z]; exact this
  · intro m i hm hi
    by_cases z : m = l
    · subst z
      simp only [if_true] at hi
      by_cases w : i = L m
      · subst w; rw [pk_us, pk_us]
      · rw [pk_un (by omega), pk_un (by omega)]
        exact H.2.2.2.1 m i hm (by omega)
    · simp only [if_neg z] at hi
      have h4 := H.2.1 m
      have hm25 := pz_L25 H hm
      rw [pk_un (by omega), pk_un (by omega)]
      exact H.2.2.2.1 m i hm hi
  · intro m i hm hi
    by_cases z : m = l
    · subst z
      simp only [if_true] at hi
      by_cases w : i = L m
      · subst w; rw [pk_us]; exact ⟨j, hj, rfl⟩
      · rw [pk_un (by omega)]
        exact H.2.2.2.2 m i hm (by omega)
    · simp only [if_neg z] at hi
      have h4 := H.2.1 m
      have hm25 := pz_L25 H hm
      rw [pk_un (by omega)]
      exact H.2.2.2.2 m i hm hi
theorem pz_app (H : pz_R c g t L) (k : Nat) {l r j : Nat} (hr : (l < 4 ∧ r = 9) ∨ (l = 4 ∧ r = 25)) (hj : j < 8) : ∃ (a : Int32) (c' g' t' : Nat → Int32), (∀ post : Int32 → SX → Prop, post a (c', g') → wpX_append post (c, g) (nI l) (nI r) (nI j)) ∧ (∀ post : Int32 → SY → Prop, post a (g', t') → wpY_append post (g, t) (nI l) (nI j) (nI r)) ∧ i_Rel k (c', g') (g', t') := by
  have hl : l < 5 := by omega
  have hr25 : r ≤ 25 := by omega
  by_cases z : r ≤ L l
  · exact ⟨-2, c, g, t, fun _ h => pz_X_full H hl hr25 (Or.inr z) h, fun _ h => pz_Y_full H hl hr25 (Or.inr z) h, rfl, L, H⟩
  rcases pz_cm01 t L l with hc | hc
  · exact ⟨_, _, _, _, fun _ h => pz_X_add H hl hr25 hc (by omega) (by omega) h, fun _ h => pz_Y_add H hl hr25 hc (by omega) h, rfl, _, pz_R_add H hr (by omega) hj⟩
  · exact ⟨-2, c, g, t, fun _ h => pz_X_full H hl hr25 (Or.inl hc) h, fun _ h => pz_Y_full H hl hr25 (Or.inl hc) h, rfl, L, H⟩
theorem pz_R_take (H : pz_R c g t L) {l : Nat} (hl : l < 5) : pz_R c (upd g l (nI (L l - 1))) t (fun m => if m = l then L l - 1 else L m) := by
  refine ⟨?_, ?_, ?_, ?_, ?_⟩
  · intro m hm
    by_cases z : m = l
    · subst z; rw [pk_us]; simp only [if_true]
    · rw [pk_un z]; simp only [if_neg z]; exact H.1 m hm
  · intro m hm
    have := H.2.1 m hm
    by_cases z : m = l
    · subst z; simp only [if_true]; omega
    · simp only [if_neg z]; exact this
  · have := H.2.2.1
    by_cases z : 4 = l
    · subst z; simp only [if_true]; omega
    · simp only [if_neg z]; exact this
  · intro m i hm hi
    by_cases z : m = l
    · subst z
      simp only [if_true] at hi
      exact H.2.2.2.1 m i hm (by omega)
    · simp only [if_neg z] at hi
      exact H.2.2.2.1 m i hm hi
  · intro m i hm hi
    by_cases z : m = l
    · subst z
      simp only [if_true] at hi
      exact H.2.2.2.2 m i hm (by omega)
    · simp only [if_neg z] at hi
      exact H.2.2.2.2 m i hm hi
theorem pz_take (H : pz_R c g t L) (k : Nat) {l : Nat} (hl : l < 5) : ∃ (a : Int32) (g' : Nat → Int32), (∀ post : Int32 → SX → Prop, post a (c, g') → wpX_takeLast post (c, g) (nI l)) ∧ (∀ post : Int32 → SY → Prop, post a (g', t) → wpY_take post (g, t) (nI l)) ∧ i_Rel k (c, g') (g', t) := by
  have hL := pz_L25 H hl
  have hi := vp_in_nI hl (N := 5) (by decide)
  by_cases z : L l = 0
  · have e : g (nI l).toNatClampNeg = 0 := by rw [pz_gl H hl, z]; rfl
    exact ⟨-1, g, fun _ h => And.intro hi (br_t e h), fun _ h => And.intro hi (br_t e h), rfl, L, H⟩
  · have e : ¬ g (nI l).toNatClampNeg = 0 := by rw [pz_gl H hl]; exact nI_ne0 (by omega) (by omega)
    have e1 : g (nI l).toNatClampNeg - 1 = nI (L l - 1) := by
      rw [pz_gl H hl, show (1 : Int32) = nI 1 from rfl, pk_sub (by omega)]
    refine ⟨pz_F t l (L l - 1), upd g l (nI (L l - 1)), ?_, ?_, rfl, _, pz_R_take H hl⟩
    · intro post h
      refine And.intro hi (br_f e (And.intro hi ?_))
      intro y ey
      rw [e1] at ey
      subst ey
      refine pz_tok H hl (by omega) (And.intro hi ?_)
      intro b eb
      rw [nI_clamp (by omega)] at eb
      subst eb
      exact h
    · intro post h
      refine And.intro hi (br_f e (And.intro hi (And.intro hi ?_)))
      intro a ea
      rw [e1, nI_clamp (by omega)] at ea
      subst ea
      refine And.intro hi ?_
      rw [nI_clamp (by omega), pk_us]
      refine And.intro (pz_inY H hl (by omega)) ?_
      rw [pz_tY H hl (by omega)]
      exact h
end
theorem i_vc_extend {k : Nat} {u : SX} {v : SY} (I : i_Rel k u v) (hk : k + 4 ≤ 2048) (v1 : Int32) (v2 : Int32) : wpX_extend (fun r u' => wpY_extend (fun r' v' => r' = r ∧ i_Rel (k + 4) u' v') v v1 v2) u v1 v2 := by
  obtain ⟨c, g⟩ := u
  obtain ⟨g', t⟩ := v
  obtain ⟨e, L, H⟩ := I
  cases e
  unfold wpX_extend wpY_extend
  dsimp only
  rcases pz_pat v1 with hp | ⟨p, hp, rfl⟩
  · exact pz_X_pat0 hp (br_t rfl (pz_Y_pat0 hp (br_t rfl ⟨rfl, rfl, L, H⟩)))
  · refine pz_X_pat1 hp (br_f (by decide) ?_)
    rcases pk_ix v2 (n := 8) (by decide) with h | h | ⟨j, hj, rfl⟩
    · exact br_t h (pz_Y_pat1 hp (br_f (by decide) (br_t h ⟨rfl, rfl, L, H⟩)))
    · have h0 : ¬ v2 < 0 := fun w => absurd (Int32.lt_of_lt_of_le w (Int32.le_trans (by decide : (0 : Int32) ≤ nI 8) h)) (Int32.lt_irrefl)
      exact br_f h0 (br_f (Int32.not_lt.mpr h) (pz_Y_pat1 hp (br_f (by decide) (br_f h0 (br_t (pz_lt_of_le (a := 7) v2 (by decide) (by decide) h) ⟨rfl, rfl, L, H⟩)))))
    · obtain ⟨a, c', g', t', hX, hY, hR⟩ := pz_app H (k + 4) (l := p) (r := 9) (Or.inl ⟨hp, rfl⟩) hj
      have h8 : nI j < 8 := nI_lt (b := 8) hj (by decide)
      have h7 : ¬ 7 < nI j := nI_nlt (a := 7) (b := j) (by omega) (by decide)
      exact br_f (nI_pos (by omega)) (br_t h8 (hX _ (pz_Y_pat1 hp (br_f (by decide) (br_f (nI_pos (by omega)) (br_f h7 (hY _ ⟨rfl, hR⟩)))))))
theorem i_vc_shorten {k : Nat} {u : SX} {v : SY} (I : i_Rel k u v) (hk : k + 4 ≤ 2048) (v1 : Int32) : wpX_shorten (fun r u' => wpY_shorten (fun r' v' => r' = r ∧ i_Rel (k + 4) u' v') v v1) u v1 := by
  obtain ⟨c, g⟩ := u
  obtain ⟨g', t⟩ := v
  obtain ⟨e, L, H⟩ := I
  cases e
  unfold wpX_shorten wpY_shorten
  dsimp only
  rcases pz_pat v1 with hp | ⟨p, hp, rfl⟩
  · exact pz_X_pat0 hp (br_t rfl (pz_Y_pat0 hp (br_t rfl ⟨rfl, rfl, L, H⟩)))
  · obtain ⟨a, g', hX, hY, hR⟩ := pz_take H (k + 4) (l := p) (by omega)
    exact pz_X_pat1 hp (br_f (by decide) (hX _ (pz_Y_pat1 hp (br_f (by decide) (hY _ ⟨rfl, hR⟩)))))
theorem i_vc_grow {k : Nat} {u : SX} {v : SY} (I : i_Rel k u v) (hk : k + 4 ≤ 2048) (v1 : Int32) : wpX_grow (fun r u' => wpY_grow (fun r' v' => r' = r ∧ i_Rel (k + 4) u' v') v v1) u v1 := by
  obtain ⟨c, g⟩ := u
  obtain ⟨g', t⟩ := v
  obtain ⟨e, L, H⟩ := I
  cases e
  unfold wpX_grow wpY_grow
  dsimp only
  rcases pk_ix v1 (n := 7) (by decide) with h | h | ⟨j, hj, rfl⟩
  · exact br_t h (br_t h ⟨rfl, rfl, L, H⟩)
  · have h0 : ¬ v1 < 0 := fun w => absurd (Int32.lt_of_lt_of_le w (Int32.le_trans (by decide : (0 : Int32) ≤ nI 7) h)) (Int32.lt_irrefl)
    exact br_f h0 (br_f (Int32.not_lt.mpr h) (br_f h0 (br_t (pz_lt_of_le (a := 6) v1 (by decide) (by decide) h) ⟨rfl, rfl, L, H⟩)))
  · obtain ⟨a, c', g', t', hX, hY, hR⟩ := pz_app H (k + 4) (l := 4) (r := 25) (Or.inr ⟨rfl, rfl⟩) (j := j) (by omega)
    have h7 : nI j < 7 := nI_lt (b := 7) hj (by decide)
    have h6 : ¬ 6 < nI j := nI_nlt (a := 6) (b := j) (by omega) (by decide)
    exact br_f (nI_pos (by omega)) (br_t h7 (hX _ (br_f (nI_pos (by omega)) (br_f h6 (hY _ ⟨rfl, hR⟩)))))
theorem i_vc_prune {k : Nat} {u : SX} {v : SY} (I : i_Rel k u v) (hk : k + 4 ≤ 2048) : wpX_prune (fun r u' => wpY_prune (fun r' v' => r' = r ∧ i_Rel (k + 4) u' v') v) u := by
  obtain ⟨c, g⟩ := u
  obtain ⟨g', t⟩ := v
  obtain ⟨e, L, H⟩ := I
  cases e
  unfold wpX_prune wpY_prune
  dsimp only
  obtain ⟨a, g', hX, hY, hR⟩ := pz_take H (k + 4) (l := 4) (by omega)
  exact hX _ (hY _ ⟨rfl, hR⟩)
theorem i_vc_complete {k : Nat} {u : SX} {v : SY} (I : i_Rel k u v) (hk : k + 4 ≤ 2048) (v1 : Int32) : wpX_complete (fun r => wpY_complete (fun r' => r' = r ∧ i_Rel (k + 4) u v) v v1) u v1 := by
  obtain ⟨c, g⟩ := u
  obtain ⟨g', t⟩ := v
  obtain ⟨e, L, H⟩ := I
  cases e
  unfold wpX_complete wpY_complete
  dsimp only
  rcases pz_pat v1 with hp | ⟨p, hp, rfl⟩
  · exact pz_X_pat0 hp (br_t rfl (pz_Y_pat0 hp (br_t rfl ⟨rfl, rfl, L, H⟩)))
  · refine pz_X_pat1 hp (br_f (by decide) (pz_X_comp H (by omega) ?_))
    rcases pz_cm01 t L p with h | h
    · exact br_t h (pz_Y_pat1 hp (br_f (by decide) (pz_Y_done H (by omega) (br_t h ⟨rfl, rfl, L, H⟩))))
    · have h' : ¬ pz_cm t L p = 0 := by rw [h]; decide
      exact br_f h' (pz_Y_pat1 hp (br_f (by decide) (pz_Y_done H (by omega) (br_f h' ⟨rfl, rfl, L, H⟩))))
theorem pz_nar {x : Int32} (h : x = 0 ∨ x = 1) : narrow .boolean (.int x) = .int x := by
  rcases h with h | h <;> rw [h] <;> rfl
theorem pz_X_whole {c g t : Nat → Int32} {L : Nat → Nat} (H : pz_R c g t L) {post : Int32 → Prop} (h : post (pz_cm t L 4)) : wpX_whole post (c, g) := by
  unfold wpX_whole
  dsimp only
  exact pz_X_comp H (l := 4) (by decide) ⟨pz_nar (pz_cm01 t L 4), h⟩
theorem i_vc_whole {k : Nat} {u : SX} {v : SY} (I : i_Rel k u v) (hk : k + 4 ≤ 2048) : wpX_whole (fun r => wpY_whole (fun r' => r' = r ∧ i_Rel (k + 4) u v) v) u := by
  obtain ⟨c, g⟩ := u
  obtain ⟨g', t⟩ := v
  obtain ⟨e, L, H⟩ := I
  cases e
  refine pz_X_whole H ?_
  unfold wpY_whole
  dsimp only
  exact pz_Y_done H (l := 4) (by decide) ⟨pz_nar (pz_cm01 t L 4), rfl, rfl, L, H⟩
end
section
/-! fitsAt, count, bare, next -/
def pz_sa (t : Nat → Int32) (L : Nat → Nat) (x : Int32) : Nat → Int32
  | 0 => 0
  | k + 1 => if pz_fa t L k x = 0 then pz_sa t L x k else pz_sa t L x k ||| ((1 : Int32) <<< (nI k &&& 31))
def pz_nn (t : Nat → Int32) (L : Nat → Nat) (n : Nat) : Int32 := if pz_cm t L 4 = 1 ∧ n < L 4 then 1 else 0
def pz_nd (t : Nat → Int32) (L : Nat → Nat) (x : Int32) : Int32 := if x < 0 then 0 else pz_nn t L x.toNatClampNeg
def pz_ct (t : Nat → Int32) (L : Nat → Nat) (p : Nat) : Nat → Int32
  | 0 => 0
  | k + 1 => if pz_fi t L p 4 k = 0 then pz_ct t L p k else pz_ct t L p k + 1
def pz_bc (t : Nat → Int32) (L : Nat → Nat) : Nat → Int32
  | 0 => 0
  | k + 1 => if pz_nn t L k = 0 then pz_bc t L k else if pz_sa t L (nI k) 4 = 0 then pz_bc t L k + 1 else pz_bc t L k
section
variable {c g t : Nat → Int32} {L : Nat → Nat}
theorem pz_X_fitsAt (H : pz_R c g t L) (x : Int32) {post : Int32 → Prop} (h : post (pz_sa t L x 4)) : wpX_fitsAt post (c, g) x := by
  have key : ∀ d k n, k + d = 4 → d < n → wX_fitsAt_4 post x c g n (pz_sa t L x k) (nI k) := by
    intro d
    induction d with
    | zero =>
      intro k n hk hn
      obtain ⟨n, rfl⟩ : ∃ m, n = m + 1 := ⟨n - 1, by omega⟩
      have hk' : k = 4 := by omega
      subst hk'
      exact br_t (nI_le (a := 4) (b := 4) (by decide) (by decide)) h
    | succ d ih =>
      intro k n hk hn
      obtain ⟨n, rfl⟩ : ∃ m, n = m + 1 := ⟨n - 1, by omega⟩
      refine br_f (nI_ge (b := 4) (by omega) (by decide)) (pz_X_fa H (by omega) x ?_)
      have := ih (k + 1) n (by omega) (by omega)
      unfold pz_sa at this
      by_cases z : pz_fa t L k x = 0
      · rw [if_pos z, ← nI_1] at this
        exact br_t z (nm_e this)
      · rw [if_neg z, ← nI_1] at this
        exact br_f z (nm_e (nm_e this))
  exact ⟨5, key 4 0 5 rfl (by decide)⟩
theorem pz_Y_fitsAt (H : pz_R c g t L) (x : Int32) {post : Int32 → Prop} (h : post (pz_sa t L x 4)) : wpY_fitsAt post (g, t) x := by
  have key : ∀ d k n, k + d = 4 → d < n → wY_fitsAt_4 post x g t n (pz_sa t L x k) (nI k) := by
    intro d
    induction d with
    | zero =>
      intro k n hk hn
      obtain ⟨n, rfl⟩ : ∃ m, n = m + 1 := ⟨n - 1, by omega⟩
      have hk' : k = 4 := by omega
      subst hk'
      exact br_t (nI_le (a := 4) (b := 4) (by decide) (by decide)) h
    | succ d ih =>
      intro k n hk hn
      obtain ⟨n, rfl⟩ : ∃ m, n = m + 1 := ⟨n - 1, by omega⟩
      refine br_f (nI_ge (b := 4) (by omega) (by decide)) (pz_Y_fa H (by omega) x ?_)
      have := ih (k + 1) n (by omega) (by omega)
      unfold pz_sa at this
      by_cases z : pz_fa t L k x = 0
      · rw [if_pos z, ← nI_1] at this
        exact br_t z (nm_e this)
      · rw [if_neg z, ← nI_1] at this
        exact br_f z (nm_e (nm_e this))
  exact ⟨5, key 4 0 5 rfl (by decide)⟩
theorem pz_nd_n {n : Nat} (hn : n < 2 ^ 31) : pz_nd t L (nI n) = pz_nn t L n := by
  unfold pz_nd
  rw [if_neg (nI_pos hn), nI_clamp hn]
theorem pz_nn1 {n : Nat} (h1 : pz_cm t L 4 = 1) (h2 : n < L 4) : pz_nn t L n = 1 := if_pos ⟨h1, h2⟩
theorem pz_nn0 {n : Nat} (h : pz_cm t L 4 = 0 ∨ L 4 ≤ n) : pz_nn t L n = 0 := by
  refine if_neg (fun w => ?_)
  rcases h with h | h
  · rw [h] at w; exact absurd w.1 (by decide)
  · omega
theorem pz_Y_node (H : pz_R c g t L) (x : Int32) {post : Int32 → Prop} (h : post (pz_nd t L x)) : wpY_node post (g, t) x := by
  have hL := H.2.2.1
  refine pz_Y_done H (l := 4) (by decide) ?_
  by_cases z : x < 0
  · unfold pz_nd at h
    rw [if_pos z] at h
    rcases pz_cm01 t L 4 with h3 | h3
    · exact br_t h3 h
    · exact br_f (by rw [h3]; decide) (br_t z h)
  · obtain ⟨n, hn, rfl⟩ := nI_of z
    rw [pz_nd_n hn] at h
    rcases pz_cm01 t L 4 with h3 | h3
    · rw [pz_nn0 (Or.inl h3)] at h
      exact br_t h3 h
    · refine br_f (by rw [h3]; decide) (br_f z ?_)
      by_cases h1 : n < L 4
      · have hle : ¬ g 4 ≤ nI n := by rw [H.1 4 (by decide)]; exact nI_ge h1 (by omega)
        rw [pz_nn1 h3 h1] at h
        exact br_f hle h
      · have hle : g 4 ≤ nI n := by rw [H.1 4 (by decide)]; exact nI_le (by omega) hn
        rw [pz_nn0 (Or.inr (by omega))] at h
        exact br_t hle h
theorem pz_fi_ge {p n : Nat} (h : L 4 ≤ n) : pz_fi t L p 4 n = 0 := if_neg (fun w => by omega)
theorem pz_ct_ge (p : Nat) : ∀ d, pz_ct t L p (L 4 + d) = pz_ct t L p (L 4) := by
  intro d
  induction d with
  | zero => rfl
  | succ d ih =>
    show pz_ct t L p ((L 4 + d) + 1) = _
    unfold pz_ct
    rw [if_pos (pz_fi_ge (by omega)), ih]
    cases L 4 <;> rfl
theorem pz_bc_ge : ∀ d, pz_bc t L (L 4 + d) = pz_bc t L (L 4) := by
  intro d
  induction d with
  | zero => rfl
  | succ d ih =>
    have e : pz_bc t L ((L 4 + d) + 1) = pz_bc t L (L 4 + d) := by
      show (if pz_nn t L (L 4 + d) = 0 then _ else _) = _
      rw [if_pos (pz_nn0 (Or.inr (by omega)))]
    exact e.trans ih
theorem pz_bc_0 (h : pz_cm t L 4 = 0) : ∀ d, pz_bc t L d = 0 := by
  intro d
  induction d with
  | zero => rfl
  | succ d ih =>
    have e : pz_bc t L (d + 1) = pz_bc t L d := by
      show (if pz_nn t L d = 0 then _ else _) = _
      rw [if_pos (pz_nn0 (Or.inl h))]
    exact e.trans ih
theorem pz_X_count (H : pz_R c g t L) {p : Nat} (hp : p < 5) {post : Int32 → Prop} (h : post (pz_ct t L p (L 4))) : ∃ n, wX_count_13 post (nI p) c g n 0 0 := by
  have hL := H.2.2.1
  have key : ∀ d k n, k + d = L 4 → d < n → wX_count_13 post (nI p) c g n (pz_ct t L p k) (nI k) := by
    intro d
    induction d with
    | zero =>
      intro k n hk hn
      obtain ⟨n, rfl⟩ : ∃ m, n = m + 1 := ⟨n - 1, by omega⟩
      have hk' : k = L 4 := by omega
      subst hk'
      have hle : g 4 ≤ nI (L 4) := by rw [H.1 4 (by decide)]; exact nI_le (by omega) (by omega)
      exact br_t hle h
    | succ d ih =>
      intro k n hk hn
      obtain ⟨n, rfl⟩ : ∃ m, n = m + 1 := ⟨n - 1, by omega⟩
      have hle : ¬ g 4 ≤ nI k := by rw [H.1 4 (by decide)]; exact nI_ge (by omega) (by omega)
      refine br_f hle (pz_X_fits H hp (l := 4) (by decide) (by omega) ?_)
      have := ih (k + 1) n (by omega) (by omega)
      unfold pz_ct at this
      by_cases z : pz_fi t L p 4 k = 0
      · rw [if_pos z, ← nI_1] at this
        exact br_t z (nm_e this)
      · rw [if_neg z, ← nI_1] at this
        exact br_f z (nm_e (nm_e this))
  exact ⟨L 4 + 1, key (L 4) 0 _ (by omega) (by omega)⟩
theorem pz_Y_count (H : pz_R c g t L) {p : Nat} (hp : p < 4) {post : Int32 → Prop} (h : post (pz_ct t L p 25)) : wpY_count post (g, t) (nI p) := by
  have key : ∀ d k n, k + d = 25 → d < n → wY_count_4 post (nI p) g t n (pz_ct t L p k) (nI k) := by
    intro d
    induction d with
    | zero =>
      intro k n hk hn
      obtain ⟨n, rfl⟩ : ∃ m, n = m + 1 := ⟨n - 1, by omega⟩
      have hk' : k = 25 := by omega
      subst hk'
      exact br_t (nI_le (a := 25) (b := 25) (by decide) (by decide)) h
    | succ d ih =>
      intro k n hk hn
      obtain ⟨n, rfl⟩ : ∃ m, n = m + 1 := ⟨n - 1, by omega⟩
      refine br_f (nI_ge (b := 25) (by omega) (by decide)) (pz_Y_pat1 hp (br_f (by decide) (pz_Y_fits H (by omega) (by omega) ?_)))
      have := ih (k + 1) n (by omega) (by omega)
      unfold pz_ct at this
      by_cases z : pz_fi t L p 4 k = 0
      · rw [if_pos z, ← nI_1] at this
        exact br_t z (nm_e this)
      · rw [if_neg z, ← nI_1] at this
        exact br_f z (nm_e (nm_e this))
  exact ⟨26, key 25 0 26 rfl (by decide)⟩
theorem pz_X_bare (H : pz_R c g t L) (hc : pz_cm t L 4 = 1) {post : Int32 → Prop} (h : post (pz_bc t L (L 4))) : ∃ n, wX_bare_13 post c g n 0 0 := by
  have hL := H.2.2.1
  have key : ∀ d k n, k + d = L 4 → d < n → wX_bare_13 post c g n (pz_bc t L k) (nI k) := by
    intro d
    induction d with
    | zero =>
      intro k n hk hn
      obtain ⟨n, rfl⟩ : ∃ m, n = m + 1 := ⟨n - 1, by omega⟩
      have hk' : k = L 4 := by omega
      subst hk'
      have hle : g 4 ≤ nI (L 4) := by rw [H.1 4 (by decide)]; exact nI_le (by omega) (by omega)
      exact br_t hle h
    | succ d ih =>
      intro k n hk hn
      obtain ⟨n, rfl⟩ : ∃ m, n = m + 1 := ⟨n - 1, by omega⟩
      have hle : ¬ g 4 ≤ nI k := by rw [H.1 4 (by decide)]; exact nI_ge (by omega) (by omega)
      refine br_f hle (pz_X_fitsAt H _ ?_)
      have := ih (k + 1) n (by omega) (by omega)
      unfold pz_bc at this
      rw [pz_nn1 hc (by omega), if_neg (by decide)] at this
      by_cases z : pz_sa t L (nI k) 4 = 0
      · rw [if_pos z, ← nI_1] at this
        exact br_t z (nm_e (nm_e this))
      · rw [if_neg z, ← nI_1] at this
        exact br_f z (nm_e this)
  exact ⟨L 4 + 1, key (L 4) 0 _ (by omega) (by omega)⟩
theorem pz_Y_bare (H : pz_R c g t L) {post : Int32 → Prop} (h : post (pz_bc t L 25)) : wpY_bare post (g, t) := by
  have key : ∀ d k n, k + d = 25 → d < n → wY_bare_4 post g t n (pz_bc t L k) (nI k) := by
    intro d
    induction d with
    | zero =>
      intro k n hk hn
      obtain ⟨n, rfl⟩ : ∃ m, n = m + 1 := ⟨n - 1, by omega⟩
      have hk' : k = 25 := by omega
      subst hk'
      exact br_t (nI_le (a := 25) (b := 25) (by decide) (by decide)) h
    | succ d ih =>
      intro k n hk hn
      obtain ⟨n, rfl⟩ : ∃ m, n = m + 1 := ⟨n - 1, by omega⟩
      refine br_f (nI_ge (b := 25) (by omega) (by decide)) (pz_Y_node H _ ?_)
      rw [pz_nd_n (by omega)]
      have := ih (k + 1) n (by omega) (by omega)
      unfold pz_bc at this
      by_cases w : pz_nn t L k = 0
      · rw [if_pos w, ← nI_1] at this
        exact br_t w (nm_e this)
      · rw [if_neg w] at this
        refine br_f w (pz_Y_fitsAt H _ ?_)
        by_cases z : pz_sa t L (nI k) 4 = 0
        · rw [if_pos z, ← nI_1] at this
          exact br_t z (nm_e (nm_e this))
        · rw [if_neg z, ← nI_1] at this
          exact br_f z (nm_e this)
  exact ⟨26, key 25 0 26 rfl (by decide)⟩
/-! next: the first node from f on, or none -/
def pz_Q (t : Nat → Int32) (L : Nat → Nat) (p f : Nat) (r : Int32) : Prop := (r = -1 ∧ ∀ m, f ≤ m → pz_fi t L p 4 m = 0) ∨ ∃ m, r = nI m ∧ f ≤ m ∧ ¬ pz_fi t L p 4 m = 0 ∧ ∀ j, f ≤ j → j < m → pz_fi t L p 4 j = 0
theorem pz_Q_ex (t : Nat → Int32) (L : Nat → Nat) (p f : Nat) : ∃ r, pz_Q t L p f r := by
  by_cases h : ∃ m, f ≤ m ∧ ¬ pz_fi t L p 4 m = 0
  · obtain ⟨m, hm, hl⟩ := pk_least _ h
    refine ⟨nI m, Or.inr ⟨m, rfl, hm.1, hm.2, fun j h1 h2 => ?_⟩⟩
    exact Decidable.byContradiction (fun w => hl j h2 ⟨h1, w⟩)
  · exact ⟨-1, Or.inl ⟨rfl, fun m hm => Decidable.byContradiction (fun w => h ⟨m, hm, w⟩)⟩⟩
theorem pz_Q_no {p f k : Nat} {r : Int32} (h : pz_Q t L p f r) (hk : L 4 ≤ k) (hj : ∀ j, f ≤ j → j < k → pz_fi t L p 4 j = 0) : r = -1 := by
  rcases h with h | ⟨m, _, h2, h3, _⟩
  · exact h.1
  · rcases Nat.lt_or_ge m k with w | w
    · exact absurd (hj m h2 w) h3
    · exact absurd (pz_fi_ge (by omega)) h3
theorem pz_Q_yes {p f k : Nat} {r : Int32} (h : pz_Q t L p f r) (hf : f ≤ k) (hk : ¬ pz_fi t L p 4 k = 0) (hj : ∀ j, f ≤ j → j < k → pz_fi t L p 4 j = 0) : r = nI k := by
  rcases h with h | ⟨m, h1, h2, h3, h4⟩
  · exact absurd (h.2 k hf) hk
  · rcases Nat.lt_trichotomy m k with w | w | w
    · exact absurd (hj m h2 w) h3
    · rw [h1, w]
    · exact absurd (h4 k hf w) hk
theorem pz_X_next (H : pz_R c g t L) {p f : Nat} (hp : p < 5) {r : Int32} (hQ : pz_Q t L p f r) {post : Int32 → Prop} (h : post r) : ∀ d k n, L 4 - k = d → d < n → f ≤ k → k < 2 ^ 31 → (∀ j, f ≤ j → j < k → pz_fi t L p 4 j = 0) → wX_next_22 post (nI p) c g n (nI k) := by
  have hL := H.2.2.1
  intro d
  induction d with
  | zero =>
    intro k n hk hn hf h31 hj
    obtain ⟨n, rfl⟩ : ∃ m, n = m + 1 := ⟨n - 1, by omega⟩
    have hle : g 4 ≤ nI k := by rw [H.1 4 (by decide)]; exact nI_le (by omega) (by omega)
    rw [pz_Q_no hQ (by omega) hj] at h
    exact br_t hle h
  | succ d ih =>
    intro k n hk hn hf h31 hj
    obtain ⟨n, rfl⟩ : ∃ m, n = m + 1 := ⟨n - 1, by omega⟩
    have hle : ¬ g 4 ≤ nI k := by rw [H.1 4 (by decide)]; exact nI_ge (by omega) (by omega)
    refine br_f hle (pz_X_fits H hp (l := 4) (by decide) h31 ?_)
    by_cases z : pz_fi t L p 4 k = 0
    · have := ih (k + 1) n (by omega) (by omega) (by omega) (by omega) (fun j h1 h2 => by
        rcases Nat.lt_or_ge j k with w | w
        · exact hj j h1 w
        · rw [show j = k by omega]; exact z)
      rw [← nI_1] at this
      exact br_t z (nm_e this)
    · rw [pz_Q_yes hQ hf z hj] at h
      exact br_f z h
theorem pz_Y_next (H : pz_R c g t L) {p f : Nat} (hp : p < 4) {v2 : Int32} (hv : ∀ k, k < 25 → (nI k < v2 ↔ k < f)) {r : Int32} (hQ : pz_Q t L p f r) {post : Int32 → Prop} (h : post r) : wpY_next post (g, t) (nI p) v2 := by
  have hL := H.2.2.1
  have key : ∀ d k n, k + d = 25 → d < n → (∀ j, f ≤ j → j < k → pz_fi t L p 4 j = 0) → wY_next_2 post (nI p) v2 g t n (nI k) := by
    intro d
    induction d with
    | zero =>
      intro k n hk hn hj
      obtain ⟨n, rfl⟩ : ∃ m, n = m + 1 := ⟨n - 1, by omega⟩
      have hk' : k = 25 := by omega
      subst hk'
      rw [pz_Q_no hQ (by omega) hj] at h
      exact br_t (nI_le (a := 25) (b := 25) (by decide) (by decide)) h
    | succ d ih =>
      intro k n hk hn hj
      obtain ⟨n, rfl⟩ : ∃ m, n = m + 1 := ⟨n - 1, by omega⟩
      refine br_f (nI_ge (b := 25) (by omega) (by decide)) (pz_Y_pat1 hp (br_f (by decide) ?_))
      have st : (f ≤ k → pz_fi t L p 4 k = 0) → ∀ x, x = nI k + 1 → wY_next_2 post (nI p) v2 g t n x := by
        intro z
        have := ih (k + 1) n (by omega) (by omega) (fun j h1 h2 => by
          rcases Nat.lt_or_ge j k with w | w
          · exact hj j h1 w
          · have e : j = k := by omega
            subst e
            exact z h1)
        rw [← nI_1] at this
        exact nm_e this
      by_cases a : nI k < v2
      · exact br_t a (st (fun w => absurd ((hv k (by omega)).mp a) (by omega)))
      · have hf : f ≤ k := by
          have : ¬ k < f := fun w => a ((hv k (by omega)).mpr w)
          omega
        refine br_f a (pz_Y_fits H (by omega) (by omega) ?_)
        by_cases z : pz_fi t L p 4 k = 0
        · exact br_t z (st (fun _ => z))
        · rw [pz_Q_yes hQ hf z hj] at h
          exact br_f z h
  exact ⟨26, key 25 0 26 rfl (by decide) (fun j _ w => absurd w (by omega))⟩
end
theorem i_vc_fitsAt {k : Nat} {u : SX} {v : SY} (I : i_Rel k u v) (hk : k + 4 ≤ 2048) (v1 : Int32) : wpX_fitsAt (fun r => wpY_fitsAt (fun r' => r' = r ∧ i_Rel (k + 4) u v) v v1) u v1 := by
  obtain ⟨c, g⟩ := u
  obtain ⟨g', t⟩ := v
  obtain ⟨e, L, H⟩ := I
  cases e
  exact pz_X_fitsAt H v1 (pz_Y_fitsAt H v1 ⟨rfl, rfl, L, H⟩)
theorem i_vc_count {k : Nat} {u : SX} {v : SY} (I : i_Rel k u v) (hk : k + 4 ≤ 2048) (v1 : Int32) : wpX_count (fun r => wpY_count (fun r' => r' = r ∧ i_Rel (k + 4) u v) v v1) u v1 := by
  obtain ⟨c, g⟩ := u
  obtain ⟨g', t⟩ := v
  obtain ⟨e, L, H⟩ := I
  cases e
  have hL := H.2.2.1
  unfold wpX_count
  dsimp only
  rcases pz_pat v1 with hp | ⟨p, hp, rfl⟩
  · exact pz_X_pat0 hp (br_t rfl ⟨1, br_f (by decide) (pz_Y_pat0 hp (br_t rfl ⟨rfl, rfl, L, H⟩))⟩)
  · refine pz_X_pat1 hp (br_f (by decide) (pz_X_count H (by omega) (pz_Y_count H hp ⟨?_, rfl, L, H⟩)))
    have := pz_ct_ge (t := t) (L := L) p (25 - L 4)
    rw [show L 4 + (25 - L 4) = 25 by omega] at this
    exact this
theorem i_vc_bare {k : Nat} {u : SX} {v : SY} (I : i_Rel k u v) (hk : k + 4 ≤ 2048) : wpX_bare (fun r => wpY_bare (fun r' => r' = r ∧ i_Rel (k + 4) u v) v) u := by
  obtain ⟨c, g⟩ := u
  obtain ⟨g', t⟩ := v
  obtain ⟨e, L, H⟩ := I
  cases e
  have hL := H.2.2.1
  unfold wpX_bare
  dsimp only
  refine pz_X_whole H ?_
  rcases pz_cm01 t L 4 with hc | hc
  · exact br_t hc (pz_Y_bare H ⟨pz_bc_0 hc 25, rfl, L, H⟩)
  · refine br_f (by rw [hc]; decide) (pz_X_bare H hc (pz_Y_bare H ⟨?_, rfl, L, H⟩))
    have := pz_bc_ge (t := t) (L := L) (25 - L 4)
    rw [show L 4 + (25 - L 4) = 25 by omega] at this
    exact this
theorem i_vc_next {k : Nat} {u : SX} {v : SY} (I : i_Rel k u v) (hk : k + 4 ≤ 2048) (v1 : Int32) (v2 : Int32) : wpX_next (fun r => wpY_next (fun r' => r' = r ∧ i_Rel (k + 4) u v) v v1 v2) u v1 v2 := by
  obtain ⟨c, g⟩ := u
  obtain ⟨g', t⟩ := v
  obtain ⟨e, L, H⟩ := I
  cases e
  unfold wpX_next
  dsimp only
  rcases pz_pat v1 with hp | ⟨p, hp, rfl⟩
  · exact pz_X_pat0 hp (br_t rfl ⟨1, br_f (by decide) (pz_Y_pat0 hp (br_t rfl ⟨rfl, rfl, L, H⟩))⟩)
  · refine pz_X_pat1 hp (br_f (by decide) ?_)
    by_cases z : v2 < 0
    · have z' : ¬ 0 ≤ v2 := Int32.not_le.mpr z
      have hv : ∀ k, k < 25 → (nI k < v2 ↔ k < 0) := by
        intro k hk
        refine ⟨fun w => absurd (Int32.lt_trans w z) (nI_pos (by omega)), fun w => absurd w (by omega)⟩
      obtain ⟨r, hQ⟩ := pz_Q_ex t L p 0
      exact br_f z' ⟨L 4 - 0 + 1, pz_X_next H (by omega) hQ (pz_Y_next H hp hv hQ ⟨rfl, rfl, L, H⟩) (L 4 - 0) 0 _ rfl (by omega) (by omega) (by omega) (fun j _ w => absurd w (by omega))⟩
    · have z' : 0 ≤ v2 := Int32.not_lt.mp z
      obtain ⟨f, hf, rfl⟩ := nI_of z
      have hv : ∀ k, k < 25 → (nI k < nI f ↔ k < f) := fun k hk => nI_ltI (by omega) hf
      obtain ⟨r, hQ⟩ := pz_Q_ex t L p f
      exact br_t z' ⟨L 4 - f + 1, pz_X_next H (by omega) hQ (pz_Y_next H hp hv hQ ⟨rfl, rfl, L, H⟩) (L 4 - f) f _ rfl (by omega) (by omega) hf (fun j _ w => absurd w (by omega))⟩
end
section
/-! gapAt, size, equal, covers -/
def pz_gp (t : Nat → Int32) (p : Nat) : Nat → Int32
  | 0 => 0
  | i + 1 => if pz_F t p i = 7 then pz_gp t p i + 1 else pz_gp t p i
def pz_hit (t : Nat → Int32) (p : Nat) (k : Int32) (i : Nat) : Prop := pz_F t p i = 7 ∧ pz_gp t p i = k
def pz_G (t : Nat → Int32) (L : Nat → Nat) (p n : Nat) (k r : Int32) : Prop := (r = -1 ∧ ∀ i, i < L p → ¬ pz_hit t p k i) ∨ ∃ i, i < L p ∧ pz_hit t p k i ∧ (∀ j, j < i → ¬ pz_hit t p k j) ∧ r = pz_ov (pz_lz t L p 4 n i)
theorem pz_G_ex (t : Nat → Int32) (L : Nat → Nat) (p n : Nat) (k : Int32) : ∃ r, pz_G t L p n k r := by
  by_cases h : ∃ i, i < L p ∧ pz_hit t p k i
  · obtain ⟨i, hi, hl⟩ := pk_least _ h
    exact ⟨_, Or.inr ⟨i, hi.1, hi.2, fun j h1 h2 => hl j h1 ⟨by omega, h2⟩, rfl⟩⟩
  · exact ⟨-1, Or.inl ⟨rfl, fun i hi w => h ⟨i, hi, w⟩⟩⟩
theorem pz_G_no {t : Nat → Int32} {L : Nat → Nat} {p n : Nat} {k r : Int32} (h : pz_G t L p n k r) (hj : ∀ j, j < L p → ¬ pz_hit t p k j) : r = -1 := by
  rcases h with h | ⟨i, h1, h2, _, _⟩
  · exact h.1
  · exact absurd h2 (hj i h1)
theorem pz_G_yes {t : Nat → Int32} {L : Nat → Nat} {p n i : Nat} {k r : Int32} (h : pz_G t L p n k r) (hi : i < L p) (hh : pz_hit t p k i) (hj : ∀ j, j < i → ¬ pz_hit t p k j) : r = pz_ov (pz_lz t L p 4 n i) := by
  rcases h with h | ⟨m, h1, h2, h3, h4⟩
  · exact absurd hh (h.2 i hi)
  · rcases Nat.lt_trichotomy m i with w | w | w
    · exact absurd h2 (hj m w)
    · rw [h4, w]
    · exact absurd hh (h3 i w)
theorem pz_less {P : Nat → Prop} {i : Nat} (h : ∀ j, j < i → P j) (hi : P i) : ∀ j, j < i + 1 → P j := by
  intro j hj
  rcases Nat.lt_or_ge j i with w | w
  · exact h j w
  · rw [show j = i by omega]; exact hi
section
variable {c g t : Nat → Int32} {L : Nat → Nat}
theorem pz_X_gap (H : pz_R c g t L) {p n : Nat} (hp : p < 5) (hn : n ≤ L 4) (hz : ¬ pz_lz t L p 4 n (L p) = none) {k r : Int32} (hG : pz_G t L p n k r) {post : Int32 → Prop} (h : post r) : ∃ f, wX_gapAt_28 post (nI p) k c g f 0 (nI n) 0 := by
  have hL := H.2.2.1
  have hP := pz_L25 H hp
  have key : ∀ d i f a, i + d = L p → d < f → pz_lz t L p 4 n i = some a → (∀ j, j < i → ¬ pz_hit t p k j) → wX_gapAt_28 post (nI p) k c g f (pz_gp t p i) (nI a) (nI i) := by
    intro d
    induction d with
    | zero =>
      intro i f a hi hf ha hj
      obtain ⟨f, rfl⟩ : ∃ m, f = m + 1 := ⟨f - 1, by omega⟩
      have hi' : i = L p := by omega
      subst hi'
      have hle : g (nI p).toNatClampNeg ≤ nI (L p) := by rw [pz_gl H hp]; exact nI_le (Nat.le_refl _) (by omega)
      rw [pz_G_no hG hj] at h
      exact And.intro (vp_in_nI hp (by decide)) (br_t hle h)
    | succ d ih =>
      intro i f a hi hf ha hj
      obtain ⟨f, rfl⟩ : ∃ m, f = m + 1 := ⟨f - 1, by omega⟩
      have hle : ¬ g (nI p).toNatClampNeg ≤ nI i := by rw [pz_gl H hp]; exact nI_ge (by omega) (by omega)
      have haL := pz_lz_le hn i a ha
      refine And.intro (vp_in_nI hp (by decide)) (br_f hle (pz_tok H hp (by omega) ?_))
      by_cases h7 : pz_F t p i = 7
      · refine br_t h7 ?_
        by_cases hk : pz_gp t p i = k
        · rw [pz_G_yes hG (by omega) ⟨h7, hk⟩ hj, ha] at h
          exact br_t hk h
        · refine br_f hk (nm_e (pz_X_end H (l := 4) (by decide) (by omega) ?_))
          have := ih (i + 1) f _ (by omega) (by omega) (pz_lz_g ha h7) (pz_less hj (fun w => hk w.2))
          unfold pz_gp at this
          rw [if_pos h7, ← nI_1] at this
          exact nm_e this
      · by_cases he : a < L 4 ∧ pz_F t 4 a = pz_F t p i
        · have := ih (i + 1) f _ (by omega) (by omega) (pz_lz_s ha h7 he.1 he.2) (pz_less hj (fun w => h7 w.1))
          unfold pz_gp at this
          rw [if_neg h7, ← nI_1, ← nI_1] at this
          exact br_f h7 (nm_e (nm_e this))
        · have := pz_lz_n (pz_lz_f ha h7 he) d
          rw [show i + 1 + d = L p by omega] at this
          exact absurd this hz
  exact ⟨L p + 1, key (L p) 0 _ n (by omega) (by omega) rfl (fun j w => absurd w (by omega))⟩
theorem pz_Y_gap (H : pz_R c g t L) {p n : Nat} (hp : p < 5) (hn : n ≤ L 4) {k r : Int32} (hG : pz_G t L p n k r) {post : Int32 → Prop} (h : post r) : ∃ f, wY_gapAt_25 post (nI p) (nI n) k g t f 0 0 := by
  have hP := pz_L25 H hp
  have key : ∀ d i f, i + d = L p → d < f → (∀ j, j < i → ¬ pz_hit t p k j) → wY_gapAt_25 post (nI p) (nI n) k g t f (pz_gp t p i) (nI i) := by
    intro d
    induction d with
    | zero =>
      intro i f hi hf hj
      obtain ⟨f, rfl⟩ : ∃ m, f = m + 1 := ⟨f - 1, by omega⟩
      have hi' : i = L p := by omega
      subst hi'
      have hle : g (nI p).toNatClampNeg ≤ nI (L p) := by rw [pz_gl H hp]; exact nI_le (Nat.le_refl _) (by omega)
      rw [pz_G_no hG hj] at h
      exact And.intro (vp_in_nI hp (by decide)) (br_t hle h)
    | succ d ih =>
      intro i f hi hf hj
      obtain ⟨f, rfl⟩ : ∃ m, f = m + 1 := ⟨f - 1, by omega⟩
      have hle : ¬ g (nI p).toNatClampNeg ≤ nI i := by rw [pz_gl H hp]; exact nI_ge (by omega) (by omega)
      refine And.intro (vp_in_nI hp (by decide)) (br_f hle (And.intro (pz_inY H hp (by omega)) ?_))
      rw [pz_tY H hp (by omega)]
      by_cases h7 : pz_F t p i = 7
      · refine br_t h7 ?_
        by_cases hk : pz_gp t p i = k
        · rw [pz_G_yes hG (by omega) ⟨h7, hk⟩ hj] at h
          exact br_t hk (pz_Y_lies H hp (l := 4) (by decide) hn (by omega) h)
        · have := ih (i + 1) f (by omega) (by omega) (pz_less hj (fun w => hk w.2))
          unfold pz_gp at this
          rw [if_pos h7, ← nI_1] at this
          exact br_f hk (nm_e (nm_e this))
      · have := ih (i + 1) f (by omega) (by omega) (pz_less hj (fun w => h7 w.1))
        unfold pz_gp at this
        rw [if_neg h7, ← nI_1] at this
        exact br_f h7 (nm_e this)
  exact ⟨L p + 1, key (L p) 0 _ (by omega) (by omega) (fun j w => absurd w (by omega))⟩
theorem pz_fa_yes {p : Nat} {x : Int32} (h : ¬ pz_fa t L p x = 0) : ∃ n, n < L 4 ∧ x = nI n ∧ ¬ pz_lz t L p 4 n (L p) = none := by
  by_cases z : x < 0
  · unfold pz_fa at h
    rw [if_pos z] at h
    exact absurd rfl h
  · obtain ⟨n, hn, rfl⟩ := nI_of z
    rw [pz_fa_n hn] at h
    unfold pz_fi at h
    by_cases w : n < L 4 ∧ pz_cm t L p = 1 ∧ pz_cm t L 4 = 1
    · rw [if_pos w] at h
      exact ⟨n, w.1, rfl, fun e => h (by rw [e]; rfl)⟩
    · rw [if_neg w] at h
      exact absurd rfl h
/-! size -/
def pz_sz (t : Nat → Int32) (L : Nat → Nat) (x : Int32) : Int32 := if pz_nd t L x = 0 then -1 else nI (pz_end t L 4 x.toNatClampNeg - x.toNatClampNeg)
theorem pz_nd_c (t : Nat → Int32) (L : Nat → Nat) (x : Int32) : pz_nd t L x = 0 ∨ ∃ n, n < L 4 ∧ x = nI n ∧ n < 2 ^ 31 ∧ pz_cm t L 4 = 1 ∧ pz_nd t L x = 1 := by
  by_cases z : x < 0
  · exact Or.inl (if_pos z)
  · obtain ⟨n, hn, rfl⟩ := nI_of z
    rw [pz_nd_n hn]
    by_cases w : pz_cm t L 4 = 1 ∧ n < L 4
    · exact Or.inr ⟨n, w.2, rfl, hn, w.1, if_pos w⟩
    · exact Or.inl (if_neg w)
theorem pz_sz_n {n : Nat} (hn : n < 2 ^ 31) (hc : pz_cm t L 4 = 1) (hL : n < L 4) : pz_sz t L (nI n) = nI (pz_end t L 4 n - n) := by
  unfold pz_sz
  rw [pz_nd_n hn, pz_nn1 hc hL, if_neg (by decide), nI_clamp hn]
theorem pz_Y_size (H : pz_R c g t L) (x : Int32) {post : Int32 → Prop} (h : post (pz_sz t L x)) : wpY_size post (g, t) x := by
  have hL := H.2.2.1
  unfold wpY_size
  dsimp only
  refine pz_Y_node H x ?_
  rcases pz_nd_c t L x with z | ⟨n, h1, rfl, hn, hc, h2⟩
  · unfold pz_sz at h
    rw [if_pos z] at h
    exact br_t z h
  · rw [pz_sz_n hn hc h1, ← pk_sub (pz_end_b (by omega)).1] at h
    exact br_f (by rw [h2]; decide) (pz_Y_end H (l := 4) (by decide) (by omega) h)
theorem pz_X_size (H : pz_R c g t L) (x : Int32) {post : Int32 → Prop} (h : post (pz_sz t L x)) : wpX_size post (c, g) x := by
  have hL := H.2.2.1
  unfold wpX_size
  dsimp only
  refine pz_X_whole H ?_
  rcases pz_cm01 t L 4 with hc | hc
  · have e : pz_nd t L x = 0 := by
      rcases pz_nd_c t L x with z | ⟨n, h1, rfl, hn, hc', h2⟩
      · exact z
      · rw [hc] at hc'; exact absurd hc' (by decide)
    unfold pz_sz at h
    rw [if_pos e] at h
    exact br_t hc h
  · refine br_f (by rw [hc]; decide) ?_
    unfold wpX_isNode
    dsimp only
    by_cases z : x < 0
    · unfold pz_sz at h
      rw [if_pos (show pz_nd t L x = 0 from if_pos z)] at h
      exact br_t z (br_t rfl h)
    · obtain ⟨n, hn, rfl⟩ := nI_of z
      refine br_f z (And.intro (vp_in_nI (n := 4) (by decide) (by decide)) ?_)
      have e4 : g (4 : Int32).toNatClampNeg = nI (L 4) := pz_gl H (l := 4) (by decide)
      rw [e4]
      by_cases w : n < L 4
      · rw [pz_sz_n hn hc w, ← pk_sub (pz_end_b (by omega)).1] at h
        exact br_f (nI_ge w (by omega)) (br_f (by decide) (pz_X_end H (l := 4) (by decide) (by omega) h))
      · unfold pz_sz at h
        rw [pz_nd_n hn, if_pos (pz_nn0 (Or.inr (by omega)))] at h
        exact br_t (nI_le (by omega) hn) (br_t rfl h)
/-! equal -/
def pz_same (t : Nat → Int32) (m n k : Nat) : Prop := ∀ i, i < k → pz_F t 4 (m + i) = pz_F t 4 (n + i)
theorem pz_X_equal (H : pz_R c g t L) {m n s : Nat} (hm : m + s ≤ L 4) (hn : n + s ≤ L 4) {post : Int32 → Prop} (h1 : pz_same t m n s → post 1) (h0 : ¬ pz_same t m n s → post 0) : ∃ f, wX_equal_25 post (nI m) (nI n) (nI s) c g f 0 := by
  have hL := H.2.2.1
  have key : ∀ d k f, k + d = s → d < f → pz_same t m n k → wX_equal_25 post (nI m) (nI n) (nI s) c g f (nI k) := by
    intro d
    induction d with
    | zero =>
      intro k f hk hf hs
      obtain ⟨f, rfl⟩ : ∃ m, f = m + 1 := ⟨f - 1, by omega⟩
      have hk' : k = s := by omega
      subst hk'
      exact br_t (nI_le (Nat.le_refl _) (by omega)) (h1 hs)
    | succ d ih =>
      intro k f hk hf hs
      obtain ⟨f, rfl⟩ : ∃ m, f = m + 1 := ⟨f - 1, by omega⟩
      refine br_f (nI_ge (by omega) (by omega)) ?_
      rw [nI_add, nI_add]
      refine pz_tok H (l := 4) (by decide) (by omega) (pz_tok H (l := 4) (by decide) (by omega) ?_)
      by_cases e : pz_F t 4 (m + k) = pz_F t 4 (n + k)
      · have := ih (k + 1) f (by omega) (by omega) (pz_less hs e)
        rw [← nI_1] at this
        exact br_t e (nm_e this)
      · exact br_f e (h0 (fun w => e (w k (by omega))))
  exact ⟨s + 1, key s 0 _ (by omega) (by omega) (fun j w => absurd w (by omega))⟩
theorem pz_Y_eq0 {x1 x2 : Int32} {post : Int32 → Prop} (h : post 0) (f : Nat) (k : Int32) : wY_equal_38 post x1 x2 g t (f + 1) 0 k := by
  by_cases z : 25 ≤ k
  · exact br_t z ⟨rfl, h⟩
  · exact br_f z (br_t rfl ⟨rfl, h⟩)
theorem pz_eY4 (m k : Nat) : (100 + nI m) + nI k = nI (25 * 4 + (m + k)) := by
  rw [show (100 : Int32) = nI 100 from rfl, nI_add, nI_add, Nat.add_assoc]
theorem pz_Y_equal (H : pz_R c g t L) {m n s : Nat} (hz : pz_sz t L (nI m) = nI s) (hm : m + s ≤ L 4) (hn : n + s ≤ L 4) {post : Int32 → Prop} (h1 : pz_same t m n s → post 1) (h0 : ¬ pz_same t m n s → post 0) : ∃ f, wY_equal_38 post (nI m) (nI n) g t f 1 0 := by
  have hL := H.2.2.1
  have key : ∀ d k f, k + d = 25 → d + 1 < f → (∀ i, i < k → i < s → pz_F t 4 (m + i) = pz_F t 4 (n + i)) → wY_equal_38 post (nI m) (nI n) g t f 1 (nI k) := by
    intro d
    induction d with
    | zero =>
      intro k f hk hf hs
      obtain ⟨f, rfl⟩ : ∃ m, f = m + 1 := ⟨f - 1, by omega⟩
      have hk' : k = 25 := by omega
      subst hk'
      exact br_t (nI_le (a := 25) (b := 25) (by decide) (by decide)) ⟨rfl, h1 (fun i hi => hs i (by omega) hi)⟩
    | succ d ih =>
      intro k f hk hf hs
      obtain ⟨f, rfl⟩ : ∃ m, f = m + 1 := ⟨f - 1, by omega⟩
      refine br_f (nI_ge (b := 25) (by omega) (by decide)) (br_f (by decide) (pz_Y_size H (nI m) ?_))
      rw [hz]
      by_cases z : s ≤ k
      · have := ih (k + 1) f (by omega) (by omega) (fun i _ hi => hs i (by omega) hi)
        rw [← nI_1] at this
        exact br_t (nI_le z (by omega)) (nm_e this)
      · refine br_f (nI_ge (by omega) (by omega)) ?_
        rw [pz_eY4, pz_eY4, nI_clamp (by omega), nI_clamp (by omega)]
        refine And.intro (vp_in_nI (by omega) (by decide)) (And.intro (vp_in_nI (by omega) (by decide)) ?_)
        by_cases e : pz_F t 4 (m + k) = pz_F t 4 (n + k)
        · have := ih (k + 1) f (by omega) (by omega) (pz_less (fun i a b => hs i a b) (fun _ => e))
          rw [← nI_1] at this
          exact br_t e (nm_e this)
        · obtain ⟨f, rfl⟩ : ∃ m, f = m + 1 := ⟨f - 1, by omega⟩
          exact br_f e (nm_e (pz_Y_eq0 (h0 (fun w => e (w k (by omega)))) f _))
  exact ⟨27, key 25 0 27 rfl (by decide) (fun j w => absurd w (by omega))⟩
end
theorem i_vc_gapAt {k : Nat} {u : SX} {v : SY} (I : i_Rel k u v) (hk : k + 4 ≤ 2048) (v1 : Int32) (v2 : Int32) (v3 : Int32) : wpX_gapAt (fun r => wpY_gapAt (fun r' => r' = r ∧ i_Rel (k + 4) u v) v v1 v2 v3) u v1 v2 v3 := by
  obtain ⟨c, g⟩ := u
  obtain ⟨g', t⟩ := v
  obtain ⟨e, L, H⟩ := I
  cases e
  unfold wpX_gapAt wpY_gapAt
  dsimp only
  rcases pz_pat v1 with hp | ⟨p, hp, rfl⟩
  · exact pz_X_pat0 hp (br_t rfl (pz_Y_pat0 hp (br_t rfl ⟨rfl, rfl, L, H⟩)))
  · refine pz_X_pat1 hp (br_f (by decide) (pz_X_fa H (by omega) v2 ?_))
    by_cases z : pz_fa t L p v2 = 0
    · exact br_t z (pz_Y_pat1 hp (br_f (by decide) (pz_Y_fa H (by omega) v2 (br_t z ⟨rfl, rfl, L, H⟩))))
    · obtain ⟨n, hn, rfl, hz⟩ := pz_fa_yes z
      obtain ⟨r, hG⟩ := pz_G_ex t L p n v3
      exact br_f z (pz_X_gap H (by omega) (by omega) hz hG (pz_Y_pat1 hp (br_f (by decide) (pz_Y_fa H (by omega) (nI n) (br_f z (pz_Y_gap H (by omega) (by omega) hG ⟨rfl, rfl, L, H⟩))))))
theorem i_vc_size {k : Nat} {u : SX} {v : SY} (I : i_Rel k u v) (hk : k + 4 ≤ 2048) (v1 : Int32) : wpX_size (fun r => wpY_size (fun r' => r' = r ∧ i_Rel (k + 4) u v) v v1) u v1 := by
  obtain ⟨c, g⟩ := u
  obtain ⟨g', t⟩ := v
  obtain ⟨e, L, H⟩ := I
  cases e
  exact pz_X_size H v1 (pz_Y_size H v1 ⟨rfl, rfl, L, H⟩)
theorem pz_nIm : ∀ s, s < 26 → ¬ nI s = -1 := by decide +kernel
theorem i_vc_equal {k : Nat} {u : SX} {v : SY} (I : i_Rel k u v) (hk : k + 4 ≤ 2048) (v1 : Int32) (v2 : Int32) : wpX_equal (fun r => wpY_equal (fun r' => r' = r ∧ i_Rel (k + 4) u v) v v1 v2) u v1 v2 := by
  obtain ⟨c, g⟩ := u
  obtain ⟨g', t⟩ := v
  obtain ⟨e, L, H⟩ := I
  cases e
  have hL := H.2.2.1
  unfold wpX_equal wpY_equal
  dsimp only
  refine pz_X_size H v1 ?_
  rcases pz_nd_c t L v1 with z1 | ⟨m, hm, rfl, hm31, hc, d1⟩
  · exact br_t (if_pos z1) (pz_Y_node H v1 (br_t z1 ⟨1, pz_Y_eq0 ⟨rfl, rfl, L, H⟩ 0 0⟩))
  · have d1' : ¬ pz_nd t L (nI m) = 0 := by rw [d1]; decide
    have bm := pz_end_b (t := t) (L := L) (l := 4) (e := m) (by omega)
    have s1 := pz_sz_n hm31 hc hm
    refine br_f (by rw [s1]; exact pz_nIm _ (by omega)) (pz_X_size H v2 ?_)
    rcases pz_nd_c t L v2 with z2 | ⟨n, hn, rfl, hn31, _, d2⟩
    · have e2 : pz_sz t L v2 = -1 := if_pos z2
      have ne : ¬ pz_sz t L (nI m) = pz_sz t L v2 := by rw [e2, s1]; exact pz_nIm _ (by omega)
      exact br_f ne (pz_Y_node H (nI m) (br_f d1' (pz_Y_node H v2 (br_t z2 ⟨1, pz_Y_eq0 ⟨rfl, rfl, L, H⟩ 0 0⟩))))
    · have d2' : ¬ pz_nd t L (nI n) = 0 := by rw [d2]; decide
      have bn := pz_end_b (t := t) (L := L) (l := 4) (e := n) (by omega)
      have s2 := pz_sz_n hn31 hc hn
      by_cases es : pz_end t L 4 m - m = pz_end t L 4 n - n
      · have e12 : pz_sz t L (nI m) = pz_sz t L (nI n) := by rw [s1, s2, es]
        have toY : ∀ b : Int32, (pz_same t m n (pz_end t L 4 m - m) → b = 1) → (¬ pz_same t m n (pz_end t L 4 m - m) → b = 0) → wpY_node (fun r_1 => (((r_1 = 0 → (∃ n38 : Nat, wY_equal_38 (fun r' => r' = b ∧ i_Rel (k + 4) (c, g) (g, t)) (nI m) (nI n) g t n38 0 0)) ∧ (¬ r_1 = 0 → (wpY_node (fun r_19 => (((r_19 = 0 → (∃ n38 : Nat, wY_equal_38 (fun r' => r' = b ∧ i_Rel (k + 4) (c, g) (g, t)) (nI m) (nI n) g t n38 0 0)) ∧ (¬ r_19 = 0 → (wpY_size (fun r_23 => (wpY_size (fun r_26 => (((r_23 = r_26 → (∃ n38 : Nat, wY_equal_38 (fun r' => r' = b ∧ i_Rel (k + 4) (c, g) (g, t)) (nI m) (nI n) g t n38 1 0)) ∧ (¬ r_23 = r_26 → (∃ n38 : Nat, wY_equal_38 (fun r' => r' = b ∧ i_Rel (k + 4) (c, g) (g, t)) (nI m) (nI n) g t n38 0 0))))) (g, t) (nI n))) (g, t) (nI m)))))) (g, t) (nI n)))))) (g, t) (nI m) := by
          intro b hb1 hb0
          exact pz_Y_node H (nI m) (br_f d1' (pz_Y_node H (nI n) (br_f d2' (pz_Y_size H (nI m) (pz_Y_size H (nI n) (br_t e12 (pz_Y_equal H s1 (by omega) (by omega) (fun w => ⟨(hb1 w).symm, rfl, L, H⟩) (fun w => ⟨(hb0 w).symm, rfl, L, H⟩))))))))
        refine br_t e12 ?_
        rw [s1]
        exact pz_X_equal H (by omega) (by omega) (fun w => toY 1 (fun _ => rfl) (fun w' => absurd w w')) (fun w => toY 0 (fun w' => absurd w' w) (fun _ => rfl))
      · have ne : ¬ pz_sz t L (nI m) = pz_sz t L (nI n) := by rw [s1, s2, nI_eq (by omega) (by omega)]; exact es
        exact br_f ne (pz_Y_node H (nI m) (br_f d1' (pz_Y_node H (nI n) (br_f d2' (pz_Y_size H (nI m) (pz_Y_size H (nI n) (br_f ne ⟨1, pz_Y_eq0 ⟨rfl, rfl, L, H⟩ 0 0⟩)))))))
theorem pz_bv01 (o : Option Nat) : pz_bv o = 0 ∨ pz_bv o = 1 := by
  cases o
  · exact Or.inl rfl
  · exact Or.inr rfl
theorem i_vc_covers {k : Nat} {u : SX} {v : SY} (I : i_Rel k u v) (hk : k + 4 ≤ 2048) (v1 : Int32) (v2 : Int32) : wpX_covers (fun r => wpY_covers (fun r' => r' = r ∧ i_Rel (k + 4) u v) v v1 v2) u v1 v2 := by
  obtain ⟨c, g⟩ := u
  obtain ⟨g', t⟩ := v
  obtain ⟨e, L, H⟩ := I
  cases e
  replace H : pz_R c g t L := H
  unfold wpX_covers wpY_covers wpY_complete
  dsimp only
  rcases pz_pat v1 with hp | ⟨p, hp, rfl⟩
  · exact pz_X_pat0 hp (br_t rfl (pz_Y_pat0 hp (br_t rfl (br_t rfl ⟨rfl, rfl, L, H⟩))))
  refine pz_X_pat1 hp (br_f (by decide) ?_)
  rcases pz_pat v2 with hq | ⟨q, hq, rfl⟩
  · refine pz_X_pat0 hq (br_t rfl (pz_Y_pat1 hp (br_f (by decide) (pz_Y_done H (by omega) ?_))))
    rcases pz_cm01 t L p with h | h
    · exact br_t h (br_t rfl ⟨rfl, rfl, L, H⟩)
    · exact br_f (by rw [h]; decide) (br_f (by decide) (pz_Y_pat0 hq (br_t rfl (br_t rfl ⟨rfl, rfl, L, H⟩))))
  · refine pz_X_pat1 hq (br_f (by decide) (pz_X_fits H (n := 0) (by omega) (l := q) (by omega) (by omega) ?_))
    have hq25 := pz_L25 H (l := q) (by omega)
    rcases pz_cm01 t L p with h | h
    · have e : pz_fi t L p q 0 = 0 := if_neg (fun w => by rw [h] at w; exact absurd w.2.1 (by decide))
      exact br_t e (pz_Y_pat1 hp (br_f (by decide) (pz_Y_done H (by omega) (br_t h (br_t rfl ⟨rfl, rfl, L, H⟩)))))
    rcases pz_cm01 t L q with h' | h'
    · have e : pz_fi t L p q 0 = 0 := if_neg (fun w => by rw [h'] at w; exact absurd w.2.2 (by decide))
      exact br_t e (pz_Y_pat1 hp (br_f (by decide) (pz_Y_done H (by omega) (br_f (by rw [h]; decide) (br_f (by decide) (pz_Y_pat1 hq (br_f (by decide) (pz_Y_done H (by omega) (br_t h' (br_t rfl ⟨rfl, rfl, L, H⟩))))))))))
    · have pos : 0 < L q := by
        rcases Nat.eq_zero_or_pos (L q) with z | z
        · unfold pz_cm at h'
          rw [z, show pz_ms (pz_F t q) 0 = 1 from rfl] at h'
          exact absurd h' (by decide)
        · exact z
      have e : pz_fi t L p q 0 = pz_bv (pz_lz t L p q 0 (L p)) := if_pos ⟨pos, h, h'⟩
      have toY : ∀ post : Int32 → Prop, post (pz_bv (pz_lz t L p q 0 (L p))) → wpY_lies (fun r_10 => (((r_10 < 0 → (post 0)) ∧ (¬ r_10 < 0 → (post 1))))) (g, t) (nI p) (nI q) 0 (g (nI p).toNatClampNeg) := by
        intro post hpost
        rw [pz_gl H (l := p) (by omega)]
        exact pz_Y_lies H (n := 0) (by omega) (l := q) (by omega) (by omega) (Nat.le_refl _) (pz_ov_lt (fun a ha => by have := pz_lz_le (l := q) (by omega) _ a ha; omega) hpost)
      rw [e]
      rcases pz_bv01 (pz_lz t L p q 0 (L p)) with b | b
      · exact br_t b (pz_Y_pat1 hp (br_f (by decide) (pz_Y_done H (by omega) (br_f (by rw [h]; decide) (br_f (by decide) (pz_Y_pat1 hq (br_f (by decide) (pz_Y_done H (by omega) (br_f (by rw [h']; decide) (br_f (by decide) (And.intro (vp_in_nI (by omega) (by decide)) (toY (fun r' => r' = 0 ∧ i_Rel (k + 4) (c, g) (g, t)) ⟨b, rfl, L, H⟩))))))))))))
      · exact br_f (by rw [b]; decide) (pz_Y_pat1 hp (br_f (by decide) (pz_Y_done H (by omega) (br_f (by rw [h]; decide) (br_f (by decide) (pz_Y_pat1 hq (br_f (by decide) (pz_Y_done H (by omega) (br_f (by rw [h']; decide) (br_f (by decide) (And.intro (vp_in_nI (by omega) (by decide)) (toY (fun r' => r' = 1 ∧ i_Rel (k + 4) (c, g) (g, t)) ⟨b, rfl, L, H⟩))))))))))))
end
section
/-! kinds: the sets that occur, each counted once -/
theorem pz_sh : ∀ j, j < 16 → ∀ i, i < 32 → bt ((1 : Int32) <<< (nI j &&& 31)) i = decide (i = j) := by decide +kernel
theorem pz_and0 {x : Int32} {j : Nat} (hj : j < 16) : (x &&& ((1 : Int32) <<< (nI j &&& 31))) = 0 ↔ bt x j = false := by
  constructor
  · intro h
    have e : bt (x &&& ((1 : Int32) <<< (nI j &&& 31))) j = bt 0 j := by rw [h]
    rw [b_and, b_0, pz_sh j hj j (by omega), decide_eq_true rfl, Bool.and_true] at e
    exact e
  · intro h
    refine b_ext (fun i hi => ?_)
    rw [b_and, b_0, pz_sh j hj i hi]
    by_cases w : i = j
    · rw [w, h, Bool.false_and]
    · rw [decide_eq_false w, Bool.and_false]
theorem pz_or1 {x : Int32} {s j : Nat} (hs : s < 16) (hj : j < 16) : bt (x ||| ((1 : Int32) <<< (nI s &&& 31))) j = (bt x j || decide (j = s)) := by
  rw [b_or, pz_sh s hs j (by omega)]
theorem pz_orN : ∀ k, k < 4 → ∀ s, s < 2 ^ k → nI s ||| ((1 : Int32) <<< (nI k &&& 31)) = nI (s + 2 ^ k) := by decide +kernel
theorem pz_sa_b (t : Nat → Int32) (L : Nat → Nat) (x : Int32) : ∀ k, k ≤ 4 → ∃ s, s < 2 ^ k ∧ pz_sa t L x k = nI s := by
  intro k
  induction k with
  | zero => intro _; exact ⟨0, by decide, rfl⟩
  | succ k ih =>
    intro hk
    obtain ⟨s, hs, e⟩ := ih (by omega)
    have e2 : 2 ^ (k + 1) = 2 ^ k + 2 ^ k := by rw [Nat.pow_succ]; omega
    unfold pz_sa
    by_cases z : pz_fa t L k x = 0
    · rw [if_pos z]
      exact ⟨s, by omega, e⟩
    · rw [if_neg z, e, pz_orN k (by omega) s hs]
      exact ⟨s + 2 ^ k, by omega, rfl⟩
theorem pz_sa16 (t : Nat → Int32) (L : Nat → Nat) (x : Int32) : ∃ s, s < 16 ∧ pz_sa t L x 4 = nI s := pz_sa_b t L x 4 (by decide)
def pz_hb (t : Nat → Int32) (L : Nat → Nat) : Nat → Nat → Bool
  | 0, _ => false
  | k + 1, j => pz_hb t L k j || (decide (pz_nn t L k = 1) && decide (pz_sa t L (nI k) 4 = nI j))
def pz_nk (h : Nat → Bool) : Nat → Int32
  | 0 => 0
  | j + 1 => if h j = true then pz_nk h j + 1 else pz_nk h j
theorem pz_nk_c {h h' : Nat → Bool} : ∀ J, (∀ j, j < J → h j = h' j) → pz_nk h J = pz_nk h' J := by
  intro J
  induction J with
  | zero => intro _; rfl
  | succ J ih =>
    intro e
    unfold pz_nk
    rw [e J (by omega), ih (fun j hj => e j (by omega))]
theorem pz_nk_0 {h : Nat → Bool} : ∀ J, (∀ j, h j = false) → pz_nk h J = 0 := by
  intro J
  induction J with
  | zero => intro _; rfl
  | succ J ih =>
    intro e
    unfold pz_nk
    rw [e J, ih e]
    rfl
theorem pz_nk_s {h h' : Nat → Bool} {s : Nat} (hs : h s = false) (e : ∀ j, j < 16 → h' j = (h j || decide (j = s))) : ∀ J, J ≤ 16 → pz_nk h' J = if s < J then pz_nk h J + 1 else pz_nk h J := by
  intro J
  induction J with
  | zero => intro _; rw [if_neg (Nat.not_lt_zero s)]; rfl
  | succ J ih =>
    intro hJ
    have iJ := ih (by omega)
    have eJ := e J (by omega)
    unfold pz_nk
    rw [eJ]
    rcases Nat.lt_trichotomy s J with w | w | w
    · rw [if_pos w] at iJ
      rw [iJ, if_pos (show s < J + 1 by omega), decide_eq_false (show ¬ J = s by omega), Bool.or_false]
      by_cases z : h J = true
      · rw [if_pos z, if_pos z]
      · rw [if_neg z, if_neg z]
    · subst w
      rw [if_neg (Nat.lt_irrefl s)] at iJ
      rw [iJ, if_pos (show s < s + 1 by omega), decide_eq_true rfl, Bool.or_true, if_pos rfl, hs, if_neg (by decide)]
    · rw [if_neg (show ¬ s < J by omega)] at iJ
      rw [iJ, if_neg (show ¬ s < J + 1 by omega), decide_eq_false (show ¬ J = s by omega), Bool.or_false]
section
variable {c g t : Nat → Int32} {L : Nat → Nat}
theorem pz_hb_s {k s : Nat} (h1 : pz_nn t L k = 1) (hs : s < 16) (e : pz_sa t L (nI k) 4 = nI s) {j : Nat} (hj : j < 16) : pz_hb t L (k + 1) j = (pz_hb t L k j || decide (j = s)) := by
  have d : decide (nI s = nI j) = decide (j = s) := by
    by_cases w : j = s
    · rw [w, decide_eq_true rfl, decide_eq_true rfl]
    · rw [decide_eq_false w, decide_eq_false (fun z => w ((nI_eq (by omega) (by omega)).mp z).symm)]
  show (pz_hb t L k j || (decide (pz_nn t L k = 1) && decide (pz_sa t L (nI k) 4 = nI j))) = _
  rw [decide_eq_true h1, e, Bool.true_and, d]
theorem pz_hb_n {k j : Nat} (h : pz_nn t L k = 0) : pz_hb t L (k + 1) j = pz_hb t L k j := by
  show (pz_hb t L k j || (decide (pz_nn t L k = 1) && decide (pz_sa t L (nI k) 4 = nI j))) = _
  rw [h, decide_eq_false (by decide), Bool.false_and, Bool.or_false]
theorem pz_hb_0 (hc : pz_cm t L 4 = 0) (j : Nat) : ∀ k, pz_hb t L k j = false := by
  intro k
  induction k with
  | zero => rfl
  | succ k ih => rw [pz_hb_n (pz_nn0 (Or.inl hc)), ih]
theorem pz_hb_ge (j : Nat) : ∀ d, pz_hb t L (L 4 + d) j = pz_hb t L (L 4) j := by
  intro d
  induction d with
  | zero => rfl
  | succ d ih => exact (pz_hb_n (k := L 4 + d) (pz_nn0 (Or.inr (by omega)))).trans ih
theorem pz_X_kinds (H : pz_R c g t L) (hc : pz_cm t L 4 = 1) {post : Int32 → Prop} (h : post (pz_nk (pz_hb t L (L 4)) 16)) : ∃ n, wX_kinds_15 post c g n 0 0 0 := by
  have hL := H.2.2.1
  have key : ∀ d k n x, k + d = L 4 → d < n → (∀ j, j < 16 → bt x j = pz_hb t L k j) → wX_kinds_15 post c g n x (pz_nk (pz_hb t L k) 16) (nI k) := by
    intro d
    induction d with
    | zero =>
      intro k n x hk hn hx
      obtain ⟨n, rfl⟩ : ∃ m, n = m + 1 := ⟨n - 1, by omega⟩
      have hk' : k = L 4 := by omega
      subst hk'
      have hle : g 4 ≤ nI (L 4) := by rw [H.1 4 (by decide)]; exact nI_le (by omega) (by omega)
      exact br_t hle h
    | succ d ih =>
      intro k n x hk hn hx
      obtain ⟨n, rfl⟩ : ∃ m, n = m + 1 := ⟨n - 1, by omega⟩
      have hle : ¬ g 4 ≤ nI k := by rw [H.1 4 (by decide)]; exact nI_ge (by omega) (by omega)
      obtain ⟨s, hs, es⟩ := pz_sa16 t L (nI k)
      have st := fun j (hj : j < 16) => pz_hb_s (pz_nn1 hc (show k < L 4 by omega)) hs es hj
      refine br_f hle (pz_X_fitsAt H _ ?_)
      rw [es]
      refine nm_e ?_
      by_cases z : bt x s = false
      · have := ih (k + 1) n (x ||| ((1 : Int32) <<< (nI s &&& 31))) (by omega) (by omega) (fun j hj => by rw [pz_or1 hs hj, hx j hj, st j hj])
        rw [pz_nk_s (s := s) ((hx s hs).symm.trans z) st 16 (by decide), if_pos hs, ← nI_1] at this
        exact br_t ((pz_and0 hs).mpr z) (nm_e (nm_e (nm_e this)))
      · have z' : pz_hb t L k s = true := by
          rw [← hx s hs]
          cases w : bt x s
          · exact absurd w z
          · rfl
        have same : ∀ j, j < 16 → pz_hb t L (k + 1) j = pz_hb t L k j := by
          intro j hj
          rw [st j hj]
          by_cases w : j = s
          · rw [w, z', Bool.true_or]
          · rw [decide_eq_false w, Bool.or_false]
        have := ih (k + 1) n x (by omega) (by omega) (fun j hj => by rw [hx j hj, same j hj])
        rw [pz_nk_c 16 same, ← nI_1] at this
        exact br_f (fun w => z ((pz_and0 hs).mp w)) (nm_e this)
  exact ⟨L 4 + 1, key (L 4) 0 _ 0 (by omega) (by omega) (fun j _ => b_0 j)⟩
def pz_bi (b : Bool) : Int32 := if b = true then 1 else 0
theorem pz_Y_kin (H : pz_R c g t L) {post : Int32 → Prop} {J : Int32 → Int32 → Prop} {x1 : Int32} {j : Nat} (h : J (if pz_hb t L 25 j = true then x1 + 1 else x1) (nI j + 1)) : ∃ n, wY_kinds_15 post J x1 (nI j) g t n 0 0 := by
  have key : ∀ d k n, k + d = 25 → d < n → wY_kinds_15 post J x1 (nI j) g t n (pz_bi (pz_hb t L k j)) (nI k) := by
    intro d
    induction d with
    | zero =>
      intro k n hk hn
      obtain ⟨n, rfl⟩ : ∃ m, n = m + 1 := ⟨n - 1, by omega⟩
      have hk' : k = 25 := by omega
      subst hk'
      refine br_t (nI_le (a := 25) (b := 25) (by decide) (by decide)) ?_
      cases w : pz_hb t L 25 j
      · rw [w, if_neg (by decide)] at h
        exact br_t rfl (nm_e h)
      · rw [w, if_pos rfl] at h
        exact br_f (by decide) (nm_e (nm_e h))
    | succ d ih =>
      intro k n hk hn
      obtain ⟨n, rfl⟩ : ∃ m, n = m + 1 := ⟨n - 1, by omega⟩
      refine br_f (nI_ge (b := 25) (by omega) (by decide)) ?_
      have := ih (k + 1) n (by omega) (by omega)
      rw [← nI_1] at this
      have un : pz_hb t L (k + 1) j = (pz_hb t L k j || (decide (pz_nn t L k = 1) && decide (pz_sa t L (nI k) 4 = nI j))) := rfl
      rw [un] at this
      cases w : pz_hb t L k j
      · rw [w, Bool.false_or] at this
        refine br_t rfl (pz_Y_node H _ ?_)
        rw [pz_nd_n (by omega)]
        by_cases z : pz_nn t L k = 1
        · rw [decide_eq_true z, Bool.true_and] at this
          refine br_f (by rw [z]; decide) (pz_Y_fitsAt H _ ?_)
          by_cases y : pz_sa t L (nI k) 4 = nI j
          · rw [decide_eq_true y] at this
            exact br_t y (nm_e this)
          · rw [decide_eq_false y] at this
            exact br_f y (nm_e this)
        · have z0 : pz_nn t L k = 0 := by
            unfold pz_nn at z ⊢
            by_cases y : pz_cm t L 4 = 1 ∧ k < L 4
            · rw [if_pos y] at z; exact absurd rfl z
            · rw [if_neg y]
          rw [decide_eq_false z, Bool.false_and] at this
          exact br_t z0 (nm_e this)
      · rw [w, Bool.true_or] at this
        exact br_f (by decide) (nm_e this)
  exact ⟨26, key 25 0 26 rfl (by decide)⟩
theorem pz_Y_kinds (H : pz_R c g t L) {post : Int32 → Prop} (h : post (pz_nk (pz_hb t L 25) 16)) : wpY_kinds post (g, t) := by
  have key : ∀ d j n, j + d = 16 → d < n → wY_kinds_4 post g t n (pz_nk (pz_hb t L 25) j) (nI j) := by
    intro d
    induction d with
    | zero =>
      intro j n hj hn
      obtain ⟨n, rfl⟩ : ∃ m, n = m + 1 := ⟨n - 1, by omega⟩
      have hj' : j = 16 := by omega
      subst hj'
      exact br_t (nI_le (a := 16) (b := 16) (by decide) (by decide)) h
    | succ d ih =>
      intro j n hj hn
      obtain ⟨n, rfl⟩ : ∃ m, n = m + 1 := ⟨n - 1, by omega⟩
      have := ih (j + 1) n (by omega) (by omega)
      rw [← nI_1] at this
      exact br_f (nI_ge (b := 16) (by omega) (by decide)) (pz_Y_kin H this)
  exact ⟨17, key 16 0 17 rfl (by decide)⟩
end
theorem i_vc_kinds {k : Nat} {u : SX} {v : SY} (I : i_Rel k u v) (hk : k + 4 ≤ 2048) : wpX_kinds (fun r => wpY_kinds (fun r' => r' = r ∧ i_Rel (k + 4) u v) v) u := by
  obtain ⟨c, g⟩ := u
  obtain ⟨g', t⟩ := v
  obtain ⟨e, L, H⟩ := I
  cases e
  have hL := H.2.2.1
  unfold wpX_kinds
  dsimp only
  refine pz_X_whole H ?_
  rcases pz_cm01 t L 4 with hc | hc
  · exact br_t hc (pz_Y_kinds H ⟨pz_nk_0 16 (fun j => pz_hb_0 hc j 25), rfl, L, H⟩)
  · refine br_f (by rw [hc]; decide) (pz_X_kinds H hc (pz_Y_kinds H ⟨?_, rfl, L, H⟩))
    refine pz_nk_c 16 (fun j _ => ?_)
    have := pz_hb_ge (t := t) (L := L) j (25 - L 4)
    rw [show L 4 + (25 - L 4) = 25 by omega] at this
    exact this
end
