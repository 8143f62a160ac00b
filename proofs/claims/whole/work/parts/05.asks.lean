/-! fitsAt, count, bare, next -/
def pz_sa (t : Nat → Int32) (L : Nat → Nat) (x : Int32) : Nat → Int32
  | 0 => 0
  | k + 1 => if pz_fa t L k x = 0 then pz_sa t L x k else pz_sa t L x k ||| ((1 : Int32) <<< (nI k &&& 31))
def pz_nn (t : Nat → Int32) (L : Nat → Nat) (n : Nat) : Int32 := if pz_cm t L 4 = 1 ∧ n < L 4 then 1 else 0
def pz_nd (t : Nat → Int32) (L : Nat → Nat) (x : Int32) : Int32 := if x < 0 then 0 else pz_nn t L x.toNatClampNeg
def pz_ct (t : Nat → Int32) (L : Nat → Nat) (p : Nat) : Nat → Int32
  | 0 => 0
  | k + 1 => if pz_fi t L p 4 k = 0 then pz_ct t L p k else pz_ct t L p k + 1
def pz_bc (t : Nat → Int32) (L : Nat → Nat) : Nat → Int32
  | 0 => 0
  | k + 1 => if pz_nn t L k = 0 then pz_bc t L k else if pz_sa t L (nI k) 4 = 0 then pz_bc t L k + 1 else pz_bc t L k
section
variable {c g t : Nat → Int32} {L : Nat → Nat}
theorem pz_X_fitsAt (H : pz_R c g t L) (x : Int32) {post : Int32 → Prop} (h : post (pz_sa t L x 4)) : wpX_fitsAt post (c, g) x := by
  have key : ∀ d k n, k + d = 4 → d < n → wX_fitsAt_4 post x c g n (pz_sa t L x k) (nI k) := by
    intro d
    induction d with
    | zero =>
      intro k n hk hn
      obtain ⟨n, rfl⟩ : ∃ m, n = m + 1 := ⟨n - 1, by omega⟩
      have hk' : k = 4 := by omega
      subst hk'
      exact br_t (nI_le (a := 4) (b := 4) (by decide) (by decide)) h
    | succ d ih =>
      intro k n hk hn
      obtain ⟨n, rfl⟩ : ∃ m, n = m + 1 := ⟨n - 1, by omega⟩
      refine br_f (nI_ge (b := 4) (by omega) (by decide)) (pz_X_fa H (by omega) x ?_)
      have := ih (k + 1) n (by omega) (by omega)
      unfold pz_sa at this
      by_cases z : pz_fa t L k x = 0
      · rw [if_pos z, ← nI_1] at this
        exact br_t z (nm_e this)
      · rw [if_neg z, ← nI_1] at this
        exact br_f z (nm_e (nm_e this))
  exact ⟨5, key 4 0 5 rfl (by decide)⟩
theorem pz_Y_fitsAt (H : pz_R c g t L) (x : Int32) {post : Int32 → Prop} (h : post (pz_sa t L x 4)) : wpY_fitsAt post (g, t) x := by
  have key : ∀ d k n, k + d = 4 → d < n → wY_fitsAt_4 post x g t n (pz_sa t L x k) (nI k) := by
    intro d
    induction d with
    | zero =>
      intro k n hk hn
      obtain ⟨n, rfl⟩ : ∃ m, n = m + 1 := ⟨n - 1, by omega⟩
      have hk' : k = 4 := by omega
      subst hk'
      exact br_t (nI_le (a := 4) (b := 4) (by decide) (by decide)) h
    | succ d ih =>
      intro k n hk hn
      obtain ⟨n, rfl⟩ : ∃ m, n = m + 1 := ⟨n - 1, by omega⟩
      refine br_f (nI_ge (b := 4) (by omega) (by decide)) (pz_Y_fa H (by omega) x ?_)
      have := ih (k + 1) n (by omega) (by omega)
      unfold pz_sa at this
      by_cases z : pz_fa t L k x = 0
      · rw [if_pos z, ← nI_1] at this
        exact br_t z (nm_e this)
      · rw [if_neg z, ← nI_1] at this
        exact br_f z (nm_e (nm_e this))
  exact ⟨5, key 4 0 5 rfl (by decide)⟩
theorem pz_nd_n {n : Nat} (hn : n < 2 ^ 31) : pz_nd t L (nI n) = pz_nn t L n := by
  unfold pz_nd
  rw [if_neg (nI_pos hn), nI_clamp hn]
theorem pz_nn1 {n : Nat} (h1 : pz_cm t L 4 = 1) (h2 : n < L 4) : pz_nn t L n = 1 := if_pos ⟨h1, h2⟩
theorem pz_nn0 {n : Nat} (h : pz_cm t L 4 = 0 ∨ L 4 ≤ n) : pz_nn t L n = 0 := by
  refine if_neg (fun w => ?_)
  rcases h with h | h
  · rw [h] at w; exact absurd w.1 (by decide)
  · omega
theorem pz_Y_node (H : pz_R c g t L) (x : Int32) {post : Int32 → Prop} (h : post (pz_nd t L x)) : wpY_node post (g, t) x := by
  have hL := H.2.2.1
  refine pz_Y_done H (l := 4) (by decide) ?_
  by_cases z : x < 0
  · unfold pz_nd at h
    rw [if_pos z] at h
    rcases pz_cm01 t L 4 with h3 | h3
    · exact br_t h3 h
    · exact br_f (by rw [h3]; decide) (br_t z h)
  · obtain ⟨n, hn, rfl⟩ := nI_of z
    rw [pz_nd_n hn] at h
    rcases pz_cm01 t L 4 with h3 | h3
    · rw [pz_nn0 (Or.inl h3)] at h
      exact br_t h3 h
    · refine br_f (by rw [h3]; decide) (br_f z ?_)
      by_cases h1 : n < L 4
      · have hle : ¬ g 4 ≤ nI n := by rw [H.1 4 (by decide)]; exact nI_ge h1 (by omega)
        rw [pz_nn1 h3 h1] at h
        exact br_f hle h
      · have hle : g 4 ≤ nI n := by rw [H.1 4 (by decide)]; exact nI_le (by omega) hn
        rw [pz_nn0 (Or.inr (by omega))] at h
        exact br_t hle h
theorem pz_fi_ge {p n : Nat} (h : L 4 ≤ n) : pz_fi t L p 4 n = 0 := if_neg (fun w => by omega)
theorem pz_ct_ge (p : Nat) : ∀ d, pz_ct t L p (L 4 + d) = pz_ct t L p (L 4) := by
  intro d
  induction d with
  | zero => rfl
  | succ d ih =>
    show pz_ct t L p ((L 4 + d) + 1) = _
    unfold pz_ct
    rw [if_pos (pz_fi_ge (by omega)), ih]
    cases L 4 <;> rfl
theorem pz_bc_ge : ∀ d, pz_bc t L (L 4 + d) = pz_bc t L (L 4) := by
  intro d
  induction d with
  | zero => rfl
  | succ d ih =>
    have e : pz_bc t L ((L 4 + d) + 1) = pz_bc t L (L 4 + d) := by
      show (if pz_nn t L (L 4 + d) = 0 then _ else _) = _
      rw [if_pos (pz_nn0 (Or.inr (by omega)))]
    exact e.trans ih
theorem pz_bc_0 (h : pz_cm t L 4 = 0) : ∀ d, pz_bc t L d = 0 := by
  intro d
  induction d with
  | zero => rfl
  | succ d ih =>
    have e : pz_bc t L (d + 1) = pz_bc t L d := by
      show (if pz_nn t L d = 0 then _ else _) = _
      rw [if_pos (pz_nn0 (Or.inl h))]
    exact e.trans ih
theorem pz_X_count (H : pz_R c g t L) {p : Nat} (hp : p < 5) {post : Int32 → Prop} (h : post (pz_ct t L p (L 4))) : ∃ n, wX_count_13 post (nI p) c g n 0 0 := by
  have hL := H.2.2.1
  have key : ∀ d k n, k + d = L 4 → d < n → wX_count_13 post (nI p) c g n (pz_ct t L p k) (nI k) := by
    intro d
    induction d with
    | zero =>
      intro k n hk hn
      obtain ⟨n, rfl⟩ : ∃ m, n = m + 1 := ⟨n - 1, by omega⟩
      have hk' : k = L 4 := by omega
      subst hk'
      have hle : g 4 ≤ nI (L 4) := by rw [H.1 4 (by decide)]; exact nI_le (by omega) (by omega)
      exact br_t hle h
    | succ d ih =>
      intro k n hk hn
      obtain ⟨n, rfl⟩ : ∃ m, n = m + 1 := ⟨n - 1, by omega⟩
      have hle : ¬ g 4 ≤ nI k := by rw [H.1 4 (by decide)]; exact nI_ge (by omega) (by omega)
      refine br_f hle (pz_X_fits H hp (l := 4) (by decide) (by omega) ?_)
      have := ih (k + 1) n (by omega) (by omega)
      unfold pz_ct at this
      by_cases z : pz_fi t L p 4 k = 0
      · rw [if_pos z, ← nI_1] at this
        exact br_t z (nm_e this)
      · rw [if_neg z, ← nI_1] at this
        exact br_f z (nm_e (nm_e this))
  exact ⟨L 4 + 1, key (L 4) 0 _ (by omega) (by omega)⟩
theorem pz_Y_count (H : pz_R c g t L) {p : Nat} (hp : p < 4) {post : Int32 → Prop} (h : post (pz_ct t L p 25)) : wpY_count post (g, t) (nI p) := by
  have key : ∀ d k n, k + d = 25 → d < n → wY_count_4 post (nI p) g t n (pz_ct t L p k) (nI k) := by
    intro d
    induction d with
    | zero =>
      intro k n hk hn
      obtain ⟨n, rfl⟩ : ∃ m, n = m + 1 := ⟨n - 1, by omega⟩
      have hk' : k = 25 := by omega
      subst hk'
      exact br_t (nI_le (a := 25) (b := 25) (by decide) (by decide)) h
    | succ d ih =>
      intro k n hk hn
      obtain ⟨n, rfl⟩ : ∃ m, n = m + 1 := ⟨n - 1, by omega⟩
      refine br_f (nI_ge (b := 25) (by omega) (by decide)) (pz_Y_pat1 hp (br_f (by decide) (pz_Y_fits H (by omega) (by omega) ?_)))
      have := ih (k + 1) n (by omega) (by omega)
      unfold pz_ct at this
      by_cases z : pz_fi t L p 4 k = 0
      · rw [if_pos z, ← nI_1] at this
        exact br_t z (nm_e this)
      · rw [if_neg z, ← nI_1] at this
        exact br_f z (nm_e (nm_e this))
  exact ⟨26, key 25 0 26 rfl (by decide)⟩
theorem pz_X_bare (H : pz_R c g t L) (hc : pz_cm t L 4 = 1) {post : Int32 → Prop} (h : post (pz_bc t L (L 4))) : ∃ n, wX_bare_13 post c g n 0 0 := by
  have hL := H.2.2.1
  have key : ∀ d k n, k + d = L 4 → d < n → wX_bare_13 post c g n (pz_bc t L k) (nI k) := by
    intro d
    induction d with
    | zero =>
      intro k n hk hn
      obtain ⟨n, rfl⟩ : ∃ m, n = m + 1 := ⟨n - 1, by omega⟩
      have hk' : k = L 4 := by omega
      subst hk'
      have hle : g 4 ≤ nI (L 4) := by rw [H.1 4 (by decide)]; exact nI_le (by omega) (by omega)
      exact br_t hle h
    | succ d ih =>
      intro k n hk hn
      obtain ⟨n, rfl⟩ : ∃ m, n = m + 1 := ⟨n - 1, by omega⟩
      have hle : ¬ g 4 ≤ nI k := by rw [H.1 4 (by decide)]; exact nI_ge (by omega) (by omega)
      refine br_f hle (pz_X_fitsAt H _ ?_)
      have := ih (k + 1) n (by omega) (by omega)
      unfold pz_bc at this
      rw [pz_nn1 hc (by omega), if_neg (by decide)] at this
      by_cases z : pz_sa t L (nI k) 4 = 0
      · rw [if_pos z, ← nI_1] at this
        exact br_t z (nm_e (nm_e this))
      · rw [if_neg z, ← nI_1] at this
        exact br_f z (nm_e this)
  exact ⟨L 4 + 1, key (L 4) 0 _ (by omega) (by omega)⟩
theorem pz_Y_bare (H : pz_R c g t L) {post : Int32 → Prop} (h : post (pz_bc t L 25)) : wpY_bare post (g, t) := by
  have key : ∀ d k n, k + d = 25 → d < n → wY_bare_4 post g t n (pz_bc t L k) (nI k) := by
    intro d
    induction d with
    | zero =>
      intro k n hk hn
      obtain ⟨n, rfl⟩ : ∃ m, n = m + 1 := ⟨n - 1, by omega⟩
      have hk' : k = 25 := by omega
      subst hk'
      exact br_t (nI_le (a := 25) (b := 25) (by decide) (by decide)) h
    | succ d ih =>
      intro k n hk hn
      obtain ⟨n, rfl⟩ : ∃ m, n = m + 1 := ⟨n - 1, by omega⟩
      refine br_f (nI_ge (b := 25) (by omega) (by decide)) (pz_Y_node H _ ?_)
      rw [pz_nd_n (by omega)]
      have := ih (k + 1) n (by omega) (by omega)
      unfold pz_bc at this
      by_cases w : pz_nn t L k = 0
      · rw [if_pos w, ← nI_1] at this
        exact br_t w (nm_e this)
      · rw [if_neg w] at this
        refine br_f w (pz_Y_fitsAt H _ ?_)
        by_cases z : pz_sa t L (nI k) 4 = 0
        · rw [if_pos z, ← nI_1] at this
          exact br_t z (nm_e (nm_e this))
        · rw [if_neg z, ← nI_1] at this
          exact br_f z (nm_e this)
  exact ⟨26, key 25 0 26 rfl (by decide)⟩
/-! next: the first node from f on, or none -/
def pz_Q (t : Nat → Int32) (L : Nat → Nat) (p f : Nat) (r : Int32) : Prop := (r = -1 ∧ ∀ m, f ≤ m → pz_fi t L p 4 m = 0) ∨ ∃ m, r = nI m ∧ f ≤ m ∧ ¬ pz_fi t L p 4 m = 0 ∧ ∀ j, f ≤ j → j < m → pz_fi t L p 4 j = 0
theorem pz_Q_ex (t : Nat → Int32) (L : Nat → Nat) (p f : Nat) : ∃ r, pz_Q t L p f r := by
  by_cases h : ∃ m, f ≤ m ∧ ¬ pz_fi t L p 4 m = 0
  · obtain ⟨m, hm, hl⟩ := pk_least _ h
    refine ⟨nI m, Or.inr ⟨m, rfl, hm.1, hm.2, fun j h1 h2 => ?_⟩⟩
    exact Decidable.byContradiction (fun w => hl j h2 ⟨h1, w⟩)
  · exact ⟨-1, Or.inl ⟨rfl, fun m hm => Decidable.byContradiction (fun w => h ⟨m, hm, w⟩)⟩⟩
theorem pz_Q_no {p f k : Nat} {r : Int32} (h : pz_Q t L p f r) (hk : L 4 ≤ k) (hj : ∀ j, f ≤ j → j < k → pz_fi t L p 4 j = 0) : r = -1 := by
  rcases h with h | ⟨m, _, h2, h3, _⟩
  · exact h.1
  · rcases Nat.lt_or_ge m k with w | w
    · exact absurd (hj m h2 w) h3
    · exact absurd (pz_fi_ge (by omega)) h3
theorem pz_Q_yes {p f k : Nat} {r : Int32} (h : pz_Q t L p f r) (hf : f ≤ k) (hk : ¬ pz_fi t L p 4 k = 0) (hj : ∀ j, f ≤ j → j < k → pz_fi t L p 4 j = 0) : r = nI k := by
  rcases h with h | ⟨m, h1, h2, h3, h4⟩
  · exact absurd (h.2 k hf) hk
  · rcases Nat.lt_trichotomy m k with w | w | w
    · exact absurd (hj m h2 w) h3
    · rw [h1, w]
    · exact absurd (h4 k hf w) hk
theorem pz_X_next (H : pz_R c g t L) {p f : Nat} (hp : p < 5) {r : Int32} (hQ : pz_Q t L p f r) {post : Int32 → Prop} (h : post r) : ∀ d k n, L 4 - k = d → d < n → f ≤ k → k < 2 ^ 31 → (∀ j, f ≤ j → j < k → pz_fi t L p 4 j = 0) → wX_next_22 post (nI p) c g n (nI k) := by
  have hL := H.2.2.1
  intro d
  induction d with
  | zero =>
    intro k n hk hn hf h31 hj
    obtain ⟨n, rfl⟩ : ∃ m, n = m + 1 := ⟨n - 1, by omega⟩
    have hle : g 4 ≤ nI k := by rw [H.1 4 (by decide)]; exact nI_le (by omega) (by omega)
    rw [pz_Q_no hQ (by omega) hj] at h
    exact br_t hle h
  | succ d ih =>
    intro k n hk hn hf h31 hj
    obtain ⟨n, rfl⟩ : ∃ m, n = m + 1 := ⟨n - 1, by omega⟩
    have hle : ¬ g 4 ≤ nI k := by rw [H.1 4 (by decide)]; exact nI_ge (by omega) (by omega)
    refine br_f hle (pz_X_fits H hp (l := 4) (by decide) h31 ?_)
    by_cases z : pz_fi t L p 4 k = 0
    · have := ih (k + 1) n (by omega) (by omega) (by omega) (by omega) (fun j h1 h2 => by
        rcases Nat.lt_or_ge j k with w | w
        · exact hj j h1 w
        · rw [show j = k by omega]; exact z)
      rw [← nI_1] at this
      exact br_t z (nm_e this)
    · rw [pz_Q_yes hQ hf z hj] at h
      exact br_f z h
theorem pz_Y_next (H : pz_R c g t L) {p f : Nat} (hp : p < 4) {v2 : Int32} (hv : ∀ k, k < 25 → (nI k < v2 ↔ k < f)) {r : Int32} (hQ : pz_Q t L p f r) {post : Int32 → Prop} (h : post r) : wpY_next post (g, t) (nI p) v2 := by
  have hL := H.2.2.1
  have key : ∀ d k n, k + d = 25 → d < n → (∀ j, f ≤ j → j < k → pz_fi t L p 4 j = 0) → wY_next_2 post (nI p) v2 g t n (nI k) := by
    intro d
    induction d with
    | zero =>
      intro k n hk hn hj
      obtain ⟨n, rfl⟩ : ∃ m, n = m + 1 := ⟨n - 1, by omega⟩
      have hk' : k = 25 := by omega
      subst hk'
      rw [pz_Q_no hQ (by omega) hj] at h
      exact br_t (nI_le (a := 25) (b := 25) (by decide) (by decide)) h
    | succ d ih =>
      intro k n hk hn hj
      obtain ⟨n, rfl⟩ : ∃ m, n = m + 1 := ⟨n - 1, by omega⟩
      refine br_f (nI_ge (b := 25) (by omega) (by decide)) (pz_Y_pat1 hp (br_f (by decide) ?_))
      have st : (f ≤ k → pz_fi t L p 4 k = 0) → ∀ x, x = nI k + 1 → wY_next_2 post (nI p) v2 g t n x := by
        intro z
        have := ih (k + 1) n (by omega) (by omega) (fun j h1 h2 => by
          rcases Nat.lt_or_ge j k with w | w
          · exact hj j h1 w
          · have e : j = k := by omega
            subst e
            exact z h1)
        rw [← nI_1] at this
        exact nm_e this
      by_cases a : nI k < v2
      · exact br_t a (st (fun w => absurd ((hv k (by omega)).mp a) (by omega)))
      · have hf : f ≤ k := by
          have : ¬ k < f := fun w => a ((hv k (by omega)).mpr w)
          omega
        refine br_f a (pz_Y_fits H (by omega) (by omega) ?_)
        by_cases z : pz_fi t L p 4 k = 0
        · exact br_t z (st (fun _ => z))
        · rw [pz_Q_yes hQ hf z hj] at h
          exact br_f z h
  exact ⟨26, key 25 0 26 rfl (by decide) (fun j _ w => absurd w (by omega))⟩
end
theorem i_vc_fitsAt {k : Nat} {u : SX} {v : SY} (I : i_Rel k u v) (hk : k + 4 ≤ 2048) (v1 : Int32) : wpX_fitsAt (fun r => wpY_fitsAt (fun r' => r' = r ∧ i_Rel (k + 4) u v) v v1) u v1 := by
  obtain ⟨c, g⟩ := u
  obtain ⟨g', t⟩ := v
  obtain ⟨e, L, H⟩ := I
  cases e
  exact pz_X_fitsAt H v1 (pz_Y_fitsAt H v1 ⟨rfl, rfl, L, H⟩)
theorem i_vc_count {k : Nat} {u : SX} {v : SY} (I : i_Rel k u v) (hk : k + 4 ≤ 2048) (v1 : Int32) : wpX_count (fun r => wpY_count (fun r' => r' = r ∧ i_Rel (k + 4) u v) v v1) u v1 := by
  obtain ⟨c, g⟩ := u
  obtain ⟨g', t⟩ := v
  obtain ⟨e, L, H⟩ := I
  cases e
  have hL := H.2.2.1
  unfold wpX_count
  dsimp only
  rcases pz_pat v1 with hp | ⟨p, hp, rfl⟩
  · exact pz_X_pat0 hp (br_t rfl ⟨1, br_f (by decide) (pz_Y_pat0 hp (br_t rfl ⟨rfl, rfl, L, H⟩))⟩)
  · refine pz_X_pat1 hp (br_f (by decide) (pz_X_count H (by omega) (pz_Y_count H hp ⟨?_, rfl, L, H⟩)))
    have := pz_ct_ge (t := t) (L := L) p (25 - L 4)
    rw [show L 4 + (25 - L 4) = 25 by omega] at this
    exact this
theorem i_vc_bare {k : Nat} {u : SX} {v : SY} (I : i_Rel k u v) (hk : k + 4 ≤ 2048) : wpX_bare (fun r => wpY_bare (fun r' => r' = r ∧ i_Rel (k + 4) u v) v) u := by
  obtain ⟨c, g⟩ := u
  obtain ⟨g', t⟩ := v
  obtain ⟨e, L, H⟩ := I
  cases e
  have hL := H.2.2.1
  unfold wpX_bare
  dsimp only
  refine pz_X_whole H ?_
  rcases pz_cm01 t L 4 with hc | hc
  · exact br_t hc (pz_Y_bare H ⟨pz_bc_0 hc 25, rfl, L, H⟩)
  · refine br_f (by rw [hc]; decide) (pz_X_bare H hc (pz_Y_bare H ⟨?_, rfl, L, H⟩))
    have := pz_bc_ge (t := t) (L := L) (25 - L 4)
    rw [show L 4 + (25 - L 4) = 25 by omega] at this
    exact this
theorem i_vc_next {k : Nat} {u : SX} {v : SY} (I : i_Rel k u v) (hk : k + 4 ≤ 2048) (v1 : Int32) (v2 : Int32) : wpX_next (fun r => wpY_next (fun r' => r' = r ∧ i_Rel (k + 4) u v) v v1 v2) u v1 v2 := by
  obtain ⟨c, g⟩ := u
  obtain ⟨g', t⟩ := v
  obtain ⟨e, L, H⟩ := I
  cases e
  unfold wpX_next
  dsimp only
  rcases pz_pat v1 with hp | ⟨p, hp, rfl⟩
  · exact pz_X_pat0 hp (br_t rfl ⟨1, br_f (by decide) (pz_Y_pat0 hp (br_t rfl ⟨rfl, rfl, L, H⟩))⟩)
  · refine pz_X_pat1 hp (br_f (by decide) ?_)
    by_cases z : v2 < 0
    · have z' : ¬ 0 ≤ v2 := Int32.not_le.mpr z
      have hv : ∀ k, k < 25 → (nI k < v2 ↔ k < 0) := by
        intro k hk
        refine ⟨fun w => absurd (Int32.lt_trans w z) (nI_pos (by omega)), fun w => absurd w (by omega)⟩
      obtain ⟨r, hQ⟩ := pz_Q_ex t L p 0
      exact br_f z' ⟨L 4 - 0 + 1, pz_X_next H (by omega) hQ (pz_Y_next H hp hv hQ ⟨rfl, rfl, L, H⟩) (L 4 - 0) 0 _ rfl (by omega) (by omega) (by omega) (fun j _ w => absurd w (by omega))⟩
    · have z' : 0 ≤ v2 := Int32.not_lt.mp z
      obtain ⟨f, hf, rfl⟩ := nI_of z
      have hv : ∀ k, k < 25 → (nI k < nI f ↔ k < f) := fun k hk => nI_ltI (by omega) hf
      obtain ⟨r, hQ⟩ := pz_Q_ex t L p f
      exact br_t z' ⟨L 4 - f + 1, pz_X_next H (by omega) hQ (pz_Y_next H hp hv hQ ⟨rfl, rfl, L, H⟩) (L 4 - f) f _ rfl (by omega) (by omega) hf (fun j _ w => absurd w (by omega))⟩
