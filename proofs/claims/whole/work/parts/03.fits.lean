/-! the end of a part; a pattern laid on a list -/
def pz_pe (F : Nat → Int32) : Nat → Int32 → Nat → Nat
  | 0, _, e => e
  | d + 1, m, e => if m ≤ 0 then e else pz_pe F d (m + (pz_pa (F e) - 1)) (e + 1)
theorem pz_pe_b (F : Nat → Int32) : ∀ d m e, e ≤ pz_pe F d m e ∧ pz_pe F d m e ≤ e + d := by
  intro d
  induction d with
  | zero => intro m e; exact ⟨Nat.le_refl _, Nat.le_refl _⟩
  | succ d ih =>
    intro m e
    unfold pz_pe
    by_cases z : m ≤ 0
    · rw [if_pos z]; omega
    · rw [if_neg z]
      have := ih (m + (pz_pa (F e) - 1)) (e + 1)
      omega
def pz_end (t : Nat → Int32) (L : Nat → Nat) (l e : Nat) : Nat := pz_pe (pz_F t l) (L l - e) 1 e
theorem pz_end_b {t : Nat → Int32} {L : Nat → Nat} {l e : Nat} (h : e ≤ L l) : e ≤ pz_end t L l e ∧ pz_end t L l e ≤ L l := by
  have := pz_pe_b (pz_F t l) (L l - e) 1 e
  unfold pz_end
  omega
def pz_lz (t : Nat → Int32) (L : Nat → Nat) (p l n : Nat) : Nat → Option Nat
  | 0 => some n
  | k + 1 => match pz_lz t L p l n k with
    | none => none
    | some a => if pz_F t p k = 7 then some (pz_end t L l a) else if a < L l ∧ pz_F t l a = pz_F t p k then some (a + 1) else none
theorem pz_lz_g {t : Nat → Int32} {L : Nat → Nat} {p l n k a : Nat} (h : pz_lz t L p l n k = some a) (h7 : pz_F t p k = 7) : pz_lz t L p l n (k + 1) = some (pz_end t L l a) := by
  simp only [pz_lz, h, h7, if_true]
theorem pz_lz_s {t : Nat → Int32} {L : Nat → Nat} {p l n k a : Nat} (h : pz_lz t L p l n k = some a) (h7 : ¬ pz_F t p k = 7) (ha : a < L l) (he : pz_F t l a = pz_F t p k) : pz_lz t L p l n (k + 1) = some (a + 1) := by
  simp only [pz_lz, h]
  rw [if_neg h7, if_pos ⟨ha, he⟩]
theorem pz_lz_f {t : Nat → Int32} {L : Nat → Nat} {p l n k a : Nat} (h : pz_lz t L p l n k = some a) (h7 : ¬ pz_F t p k = 7) (he : ¬ (a < L l ∧ pz_F t l a = pz_F t p k)) : pz_lz t L p l n (k + 1) = none := by
  simp only [pz_lz, h]
  rw [if_neg h7, if_neg he]
theorem pz_lz_n {t : Nat → Int32} {L : Nat → Nat} {p l n k : Nat} (h : pz_lz t L p l n k = none) : ∀ d, pz_lz t L p l n (k + d) = none := by
  intro d
  induction d with
  | zero => exact h
  | succ d ih =>
    show pz_lz t L p l n ((k + d) + 1) = none
    simp only [pz_lz, ih]
theorem pz_lz_le {t : Nat → Int32} {L : Nat → Nat} {p l n : Nat} (hn : n ≤ L l) : ∀ k a, pz_lz t L p l n k = some a → a ≤ L l := by
  intro k
  induction k with
  | zero =>
    intro a h
    have h' : some n = some a := h
    cases h'
    exact hn
  | succ k ih =>
    intro a h
    cases e : pz_lz t L p l n k with
    | none => rw [pz_lz_n e 1] at h; cases h
    | some b =>
      have hb := ih b e
      by_cases h7 : pz_F t p k = 7
      · rw [pz_lz_g e h7] at h
        cases h
        exact (pz_end_b hb).2
      · by_cases he : b < L l ∧ pz_F t l b = pz_F t p k
        · rw [pz_lz_s e h7 he.1 he.2] at h
          cases h
          omega
        · rw [pz_lz_f e h7 he] at h
          cases h
def pz_ov : Option Nat → Int32
  | none => -1
  | some a => nI a
def pz_bv : Option Nat → Int32
  | none => 0
  | some _ => 1
section
variable {c g t : Nat → Int32} {L : Nat → Nat}
theorem pz_X_pe (H : pz_R c g t L) {l : Nat} (hl : l < 5) {post : Int32 → Prop} : ∀ d n m e, L l - e = d → d < n → e < 2 ^ 30 → post (nI (pz_pe (pz_F t l) d m e)) → wX_partEnd_5 post (nI l) c g n m (nI e) := by
  have hL := pz_L25 H hl
  intro d
  induction d with
  | zero =>
    intro n m e hd hn h30 h
    obtain ⟨n, rfl⟩ : ∃ m, n = m + 1 := ⟨n - 1, by omega⟩
    have hle : g (nI l).toNatClampNeg ≤ nI e := by rw [pz_gl H hl]; exact nI_le (by omega) (by omega)
    by_cases z : m ≤ 0
    · exact br_t z h
    · exact br_f z (And.intro (vp_in_nI hl (by decide)) (br_t hle h))
  | succ d ih =>
    intro n m e hd hn h30 h
    obtain ⟨n, rfl⟩ : ∃ m, n = m + 1 := ⟨n - 1, by omega⟩
    have hle : ¬ g (nI l).toNatClampNeg ≤ nI e := by rw [pz_gl H hl]; exact nI_ge (by omega) (by omega)
    unfold pz_pe at h
    by_cases z : m ≤ 0
    · rw [if_pos z] at h
      exact br_t z h
    · rw [if_neg z] at h
      refine br_f z (And.intro (vp_in_nI hl (by decide)) (br_f hle (pz_tok H hl (by omega) (pz_X_parts ?_))))
      intro x3 e3 x4 e4
      subst e3 e4
      rw [nI_1]
      exact ih n _ (e + 1) (by omega) (by omega) (by omega) h
theorem pz_X_end (H : pz_R c g t L) {l e : Nat} (hl : l < 5) (he : e < 2 ^ 30) {post : Int32 → Prop} (h : post (nI (pz_end t L l e))) : wpX_partEnd post (c, g) (nI l) (nI e) :=
  ⟨L l - e + 1, pz_X_pe H hl (L l - e) _ 1 e rfl (by omega) he h⟩
theorem pz_Y_pe (H : pz_R c g t L) {l : Nat} (hl : l < 5) {post : Int32 → Prop} : ∀ d n m e, L l - e = d → d < n → e < 2 ^ 30 → post (nI (pz_pe (pz_F t l) d m e)) → wY_behind_5 post (nI l) g t n m (nI e) := by
  have hL := pz_L25 H hl
  intro d
  induction d with
  | zero =>
    intro n m e hd hn h30 h
    obtain ⟨n, rfl⟩ : ∃ m, n = m + 1 := ⟨n - 1, by omega⟩
    have hle : g (nI l).toNatClampNeg ≤ nI e := by rw [pz_gl H hl]; exact nI_le (by omega) (by omega)
    by_cases z : m ≤ 0
    · exact br_t z h
    · exact br_f z (And.intro (vp_in_nI hl (by decide)) (br_t hle h))
  | succ d ih =>
    intro n m e hd hn h30 h
    obtain ⟨n, rfl⟩ : ∃ m, n = m + 1 := ⟨n - 1, by omega⟩
    have hle : ¬ g (nI l).toNatClampNeg ≤ nI e := by rw [pz_gl H hl]; exact nI_ge (by omega) (by omega)
    unfold pz_pe at h
    by_cases z : m ≤ 0
    · rw [if_pos z] at h
      exact br_t z h
    · rw [if_neg z] at h
      refine br_f z (And.intro (vp_in_nI hl (by decide)) (br_f hle (And.intro (pz_inY H hl (by omega)) (pz_Y_partsF H hl (by omega) ?_))))
      intro x3 e3 x4 e4
      have e5 : x3 = m + (pz_pa (pz_F t l e) - 1) := by
        rw [e3]
        generalize pz_pa (pz_F t l e) = b
        grind
      subst e5 e4
      rw [nI_1]
      exact ih n _ (e + 1) (by omega) (by omega) (by omega) h
theorem pz_Y_end (H : pz_R c g t L) {l e : Nat} (hl : l < 5) (he : e < 2 ^ 30) {post : Int32 → Prop} (h : post (nI (pz_end t L l e))) : wpY_behind post (g, t) (nI l) (nI e) :=
  ⟨L l - e + 1, pz_Y_pe H hl (L l - e) _ 1 e rfl (by omega) he h⟩
theorem pz_Y_lies (H : pz_R c g t L) {p l n b : Nat} (hp : p < 5) (hl : l < 5) (hn : n ≤ L l) (hb : b ≤ L p) {post : Int32 → Prop} (h : post (pz_ov (pz_lz t L p l n b))) : wpY_lies post (g, t) (nI p) (nI l) (nI n) (nI b) := by
  have hL := pz_L25 H hl
  have hP := pz_L25 H hp
  have key : ∀ d k f a, k + d = b → d < f → pz_lz t L p l n k = some a → wY_lies_6 post (nI p) (nI l) (nI b) g t f (nI a) (nI k) := by
    intro d
    induction d with
    | zero =>
      intro k f a hk hf hz
      obtain ⟨f, rfl⟩ : ∃ m, f = m + 1 := ⟨f - 1, by omega⟩
      have hk' : k = b := by omega
      subst hk'
      rw [hz] at h
      exact br_t (nI_le (Nat.le_refl _) (by omega)) h
    | succ d ih =>
      intro k f a hk hf hz
      obtain ⟨f, rfl⟩ : ∃ m, f = m + 1 := ⟨f - 1, by omega⟩
      have ha := pz_lz_le hn k a hz
      refine br_f (nI_ge (by omega) (by omega)) (And.intro (pz_inY H hp (by omega)) ?_)
      intro x7 e7
      rw [pz_tY H hp (by omega)] at e7
      subst e7
      by_cases h7 : pz_F t p k = 7
      · refine br_t h7 (pz_Y_end H hl (by omega) ?_)
        intro x6 e6
        subst e6
        rw [nI_1]
        exact ih (k + 1) f _ (by omega) (by omega) (pz_lz_g hz h7)
      · refine br_f h7 (And.intro (vp_in_nI hl (by decide)) ?_)
        by_cases hal : a < L l
        · have hle : ¬ g (nI l).toNatClampNeg ≤ nI a := by rw [pz_gl H hl]; exact nI_ge hal (by omega)
          refine br_f hle (And.intro (pz_inY H hl hal) ?_)
          rw [pz_tY H hl hal]
          by_cases he : pz_F t l a = pz_F t p k
          · refine br_t he ?_
            intro x5 e5 x6 e6
            subst e5 e6
            rw [nI_1, nI_1]
            exact ih (k + 1) f _ (by omega) (by omega) (pz_lz_s hz h7 hal he)
          · refine br_f he ?_
            have := pz_lz_n (pz_lz_f hz h7 (fun w => he w.2)) d
            rw [show k + 1 + d = b by omega] at this
            rw [this] at h
            exact h
        · have hle : g (nI l).toNatClampNeg ≤ nI a := by rw [pz_gl H hl]; exact nI_le (by omega) (by omega)
          refine br_t hle ?_
          have := pz_lz_n (pz_lz_f hz h7 (fun w => hal w.1)) d
          rw [show k + 1 + d = b by omega] at this
          rw [this] at h
          exact h
  exact ⟨b + 1, key b 0 _ n (by omega) (by omega) rfl⟩
theorem pz_X_walk (H : pz_R c g t L) {p l n : Nat} (hp : p < 5) (hl : l < 5) (hn : n ≤ L l) {post : Int32 → Prop} (h : post (pz_bv (pz_lz t L p l n (L p)))) : ∃ f, wX_fits_33 post (nI p) (nI l) c g f (nI n) 0 := by
  have hL := pz_L25 H hl
  have hP := pz_L25 H hp
  have key : ∀ d k f a, k + d = L p → d < f → pz_lz t L p l n k = some a → wX_fits_33 post (nI p) (nI l) c g f (nI a) (nI k) := by
    intro d
    induction d with
    | zero =>
      intro k f a hk hf hz
      obtain ⟨f, rfl⟩ : ∃ m, f = m + 1 := ⟨f - 1, by omega⟩
      have hk' : k = L p := by omega
      subst hk'
      rw [hz] at h
      have hle : g (nI p).toNatClampNeg ≤ nI (L p) := by rw [pz_gl H hp]; exact nI_le (Nat.le_refl _) (by omega)
      exact And.intro (vp_in_nI hp (by decide)) (br_t hle h)
    | succ d ih =>
      intro k f a hk hf hz
      obtain ⟨f, rfl⟩ : ∃ m, f = m + 1 := ⟨f - 1, by omega⟩
      have ha := pz_lz_le hn k a hz
      have hle : ¬ g (nI p).toNatClampNeg ≤ nI k := by rw [pz_gl H hp]; exact nI_ge (by omega) (by omega)
      refine And.intro (vp_in_nI hp (by decide)) (br_f hle (pz_tok H hp (by omega) ?_))
      by_cases h7 : pz_F t p k = 7
      · refine br_t h7 (pz_X_end H hl (by omega) ?_)
        intro x6 e6
        subst e6
        rw [nI_1]
        exact ih (k + 1) f _ (by omega) (by omega) (pz_lz_g hz h7)
      · refine br_f h7 ?_
        have fin : pz_lz t L p l n (k + 1) = none → post 0 := by
          intro w
          have := pz_lz_n w d
          rw [show k + 1 + d = L p by omega] at this
          rw [this] at h
          exact h
        by_cases hal : a < L l
        · refine pz_tok H hl hal ?_
          by_cases he : pz_F t p k = pz_F t l a
          · refine br_t he ?_
            intro x5 e5 x6 e6
            subst e5 e6
            rw [nI_1, nI_1]
            exact ih (k + 1) f _ (by omega) (by omega) (pz_lz_s hz h7 hal he.symm)
          · exact br_f he (fin (pz_lz_f hz h7 (fun w => he w.2.symm)))
        · refine pz_tokN H hl (by omega) (by omega) ?_
          exact br_f (pz_neM H hp (by omega)) (fin (pz_lz_f hz h7 (fun w => hal w.1)))
  exact ⟨L p + 1, key (L p) 0 _ n (by omega) (by omega) rfl⟩
/-! fits -/
def pz_fi (t : Nat → Int32) (L : Nat → Nat) (p l n : Nat) : Int32 := if n < L l ∧ pz_cm t L p = 1 ∧ pz_cm t L l = 1 then pz_bv (pz_lz t L p l n (L p)) else 0
theorem pz_X_fits (H : pz_R c g t L) {p l n : Nat} (hp : p < 5) (hl : l < 5) (hn : n < 2 ^ 31) {post : Int32 → Prop} (h : post (pz_fi t L p l n)) : wpX_fits post (c, g) (nI p) (nI l) (nI n) := by
  have hL := pz_L25 H hl
  unfold pz_fi at h
  by_cases h1 : n < L l
  · have hle : ¬ g (nI l).toNatClampNeg ≤ nI n := by rw [pz_gl H hl]; exact nI_ge h1 (by omega)
    refine br_f (nI_pos hn) (And.intro (vp_in_nI hl (by decide)) (br_f hle (br_f (by decide) (pz_X_comp H hp ?_))))
    rcases pz_cm01 t L p with h2 | h2
    · rw [if_neg (fun w => by rw [h2] at w; exact absurd w.2.1 (by decide))] at h
      exact br_t h2 h
    · refine br_f (by rw [h2]; decide) (pz_X_comp H hl ?_)
      rcases pz_cm01 t L l with h3 | h3
      · rw [if_neg (fun w => by rw [h3] at w; exact absurd w.2.2 (by decide))] at h
        exact br_t h3 h
      · rw [if_pos ⟨h1, h2, h3⟩] at h
        exact br_f (by rw [h3]; decide) (pz_X_walk H hp hl (by omega) h)
  · have hle : g (nI l).toNatClampNeg ≤ nI n := by rw [pz_gl H hl]; exact nI_le (by omega) hn
    rw [if_neg (fun w => h1 w.1)] at h
    exact br_f (nI_pos hn) (And.intro (vp_in_nI hl (by decide)) (br_t hle (br_t rfl h)))
theorem pz_ov_lt {o : Option Nat} {post : Int32 → Prop} (hb : ∀ a, o = some a → a < 2 ^ 31) (h : post (pz_bv o)) : (pz_ov o < 0 → post 0) ∧ (¬ pz_ov o < 0 → post 1) := by
  cases o with
  | none => exact br_t (by decide) h
  | some a => exact br_f (nI_pos (hb a rfl)) h
theorem pz_Y_fits (H : pz_R c g t L) {p n : Nat} (hp : p < 5) (hn : n < 2 ^ 31) {post : Int32 → Prop} (h : post (pz_fi t L p 4 n)) : wpY_fits post (g, t) (nI p) (nI n) := by
  have hL := H.2.2.1
  unfold pz_fi at h
  refine pz_Y_done H hp ?_
  rcases pz_cm01 t L p with h2 | h2
  · rw [if_neg (fun w => by rw [h2] at w; exact absurd w.2.1 (by decide))] at h
    exact br_t h2 h
  · refine br_f (by rw [h2]; decide) (pz_Y_done H (l := 4) (by decide) ?_)
    rcases pz_cm01 t L 4 with h3 | h3
    · rw [if_neg (fun w => by rw [h3] at w; exact absurd w.2.2 (by decide))] at h
      exact br_t h3 (br_t rfl h)
    · refine br_f (by rw [h3]; decide) (br_f (nI_pos hn) ?_)
      by_cases h1 : n < L 4
      · have hle : ¬ g 4 ≤ nI n := by rw [H.1 4 (by decide)]; exact nI_ge h1 (by omega)
        rw [if_pos ⟨h1, h2, h3⟩] at h
        refine br_f hle (br_f (by decide) (And.intro (vp_in_nI hp (by decide)) ?_))
        rw [pz_gl H hp]
        exact pz_Y_lies H hp (l := 4) (by decide) (by omega) (Nat.le_refl _) (pz_ov_lt (fun a ha => by have := pz_lz_le (l := 4) (by omega) _ a ha; omega) h)
      · have hle : g 4 ≤ nI n := by rw [H.1 4 (by decide)]; exact nI_le (by omega) hn
        rw [if_neg (fun w => h1 w.1)] at h
        exact br_t hle (br_t rfl h)
/-- the same for every int -/
def pz_fa (t : Nat → Int32) (L : Nat → Nat) (p : Nat) (x : Int32) : Int32 := if x < 0 then 0 else pz_fi t L p 4 x.toNatClampNeg
theorem pz_fa_n {p n : Nat} (hn : n < 2 ^ 31) : pz_fa t L p (nI n) = pz_fi t L p 4 n := by
  unfold pz_fa
  rw [if_neg (nI_pos hn), nI_clamp hn]
theorem pz_X_fa (H : pz_R c g t L) {p : Nat} (hp : p < 5) (x : Int32) {post : Int32 → Prop} (h : post (pz_fa t L p x)) : wpX_fits post (c, g) (nI p) 4 x := by
  by_cases z : x < 0
  · unfold pz_fa at h
    rw [if_pos z] at h
    exact br_t z (br_t rfl h)
  · obtain ⟨n, hn, rfl⟩ := nI_of z
    rw [pz_fa_n hn] at h
    exact pz_X_fits H hp (l := 4) (by decide) hn h
theorem pz_Y_fa (H : pz_R c g t L) {p : Nat} (hp : p < 5) (x : Int32) {post : Int32 → Prop} (h : post (pz_fa t L p x)) : wpY_fits post (g, t) (nI p) x := by
  by_cases z : x < 0
  · unfold pz_fa at h
    rw [if_pos z] at h
    refine pz_Y_done H hp ?_
    rcases pz_cm01 t L p with h2 | h2
    · exact br_t h2 h
    · refine br_f (by rw [h2]; decide) (pz_Y_done H (l := 4) (by decide) ?_)
      rcases pz_cm01 t L 4 with h3 | h3
      · exact br_t h3 (br_t rfl h)
      · exact br_f (by rw [h3]; decide) (br_t z (br_t rfl h))
  · obtain ⟨n, hn, rfl⟩ := nI_of z
    rw [pz_fa_n hn] at h
    exact pz_Y_fits H hp hn h
end
