/-! kinds: the sets that occur, each counted once -/
theorem pz_sh : ∀ j, j < 16 → ∀ i, i < 32 → bt ((1 : Int32) <<< (nI j &&& 31)) i = decide (i = j) := by decide +kernel
theorem pz_and0 {x : Int32} {j : Nat} (hj : j < 16) : (x &&& ((1 : Int32) <<< (nI j &&& 31))) = 0 ↔ bt x j = false := by
  constructor
  · intro h
    have e : bt (x &&& ((1 : Int32) <<< (nI j &&& 31))) j = bt 0 j := by rw [h]
    rw [b_and, b_0, pz_sh j hj j (by omega), decide_eq_true rfl, Bool.and_true] at e
    exact e
  · intro h
    refine b_ext (fun i hi => ?_)
    rw [b_and, b_0, pz_sh j hj i hi]
    by_cases w : i = j
    · rw [w, h, Bool.false_and]
    · rw [decide_eq_false w, Bool.and_false]
theorem pz_or1 {x : Int32} {s j : Nat} (hs : s < 16) (hj : j < 16) : bt (x ||| ((1 : Int32) <<< (nI s &&& 31))) j = (bt x j || decide (j = s)) := by
  rw [b_or, pz_sh s hs j (by omega)]
theorem pz_orN : ∀ k, k < 4 → ∀ s, s < 2 ^ k → nI s ||| ((1 : Int32) <<< (nI k &&& 31)) = nI (s + 2 ^ k) := by decide +kernel
theorem pz_sa_b (t : Nat → Int32) (L : Nat → Nat) (x : Int32) : ∀ k, k ≤ 4 → ∃ s, s < 2 ^ k ∧ pz_sa t L x k = nI s := by
  intro k
  induction k with
  | zero => intro _; exact ⟨0, by decide, rfl⟩
  | succ k ih =>
    intro hk
    obtain ⟨s, hs, e⟩ := ih (by omega)
    have e2 : 2 ^ (k + 1) = 2 ^ k + 2 ^ k := by rw [Nat.pow_succ]; omega
    unfold pz_sa
    by_cases z : pz_fa t L k x = 0
    · rw [if_pos z]
      exact ⟨s, by omega, e⟩
    · rw [if_neg z, e, pz_orN k (by omega) s hs]
      exact ⟨s + 2 ^ k, by omega, rfl⟩
theorem pz_sa16 (t : Nat → Int32) (L : Nat → Nat) (x : Int32) : ∃ s, s < 16 ∧ pz_sa t L x 4 = nI s := pz_sa_b t L x 4 (by decide)
def pz_hb (t : Nat → Int32) (L : Nat → Nat) : Nat → Nat → Bool
  | 0, _ => false
  | k + 1, j => pz_hb t L k j || (decide (pz_nn t L k = 1) && decide (pz_sa t L (nI k) 4 = nI j))
def pz_nk (h : Nat → Bool) : Nat → Int32
  | 0 => 0
  | j + 1 => if h j = true then pz_nk h j + 1 else pz_nk h j
theorem pz_nk_c {h h' : Nat → Bool} : ∀ J, (∀ j, j < J → h j = h' j) → pz_nk h J = pz_nk h' J := by
  intro J
  induction J with
  | zero => intro _; rfl
  | succ J ih =>
    intro e
    unfold pz_nk
    rw [e J (by omega), ih (fun j hj => e j (by omega))]
theorem pz_nk_0 {h : Nat → Bool} : ∀ J, (∀ j, h j = false) → pz_nk h J = 0 := by
  intro J
  induction J with
  | zero => intro _; rfl
  | succ J ih =>
    intro e
    unfold pz_nk
    rw [e J, ih e]
    rfl
theorem pz_nk_s {h h' : Nat → Bool} {s : Nat} (hs : h s = false) (e : ∀ j, j < 16 → h' j = (h j || decide (j = s))) : ∀ J, J ≤ 16 → pz_nk h' J = if s < J then pz_nk h J + 1 else pz_nk h J := by
  intro J
  induction J with
  | zero => intro _; rw [if_neg (Nat.not_lt_zero s)]; rfl
  | succ J ih =>
    intro hJ
    have iJ := ih (by omega)
    have eJ := e J (by omega)
    unfold pz_nk
    rw [eJ]
    rcases Nat.lt_trichotomy s J with w | w | w
    · rw [if_pos w] at iJ
      rw [iJ, if_pos (show s < J + 1 by omega), decide_eq_false (show ¬ J = s by omega), Bool.or_false]
      by_cases z : h J = true
      · rw [if_pos z, if_pos z]
      · rw [if_neg z, if_neg z]
    · subst w
      rw [if_neg (Nat.lt_irrefl s)] at iJ
      rw [iJ, if_pos (show s < s + 1 by omega), decide_eq_true rfl, Bool.or_true, if_pos rfl, hs, if_neg (by decide)]
    · rw [if_neg (show ¬ s < J by omega)] at iJ
      rw [iJ, if_neg (show ¬ s < J + 1 by omega), decide_eq_false (show ¬ J = s by omega), Bool.or_false]
section
variable {c g t : Nat → Int32} {L : Nat → Nat}
theorem pz_hb_s {k s : Nat} (h1 : pz_nn t L k = 1) (hs : s < 16) (e : pz_sa t L (nI k) 4 = nI s) {j : Nat} (hj : j < 16) : pz_hb t L (k + 1) j = (pz_hb t L k j || decide (j = s)) := by
  have d : decide (nI s = nI j) = decide (j = s) := by
    by_cases w : j = s
    · rw [w, decide_eq_true rfl, decide_eq_true rfl]
    · rw [decide_eq_false w, decide_eq_false (fun z => w ((nI_eq (by omega) (by omega)).mp z).symm)]
  show (pz_hb t L k j || (decide (pz_nn t L k = 1) && decide (pz_sa t L (nI k) 4 = nI j))) = _
  rw [decide_eq_true h1, e, Bool.true_and, d]
theorem pz_hb_n {k j : Nat} (h : pz_nn t L k = 0) : pz_hb t L (k + 1) j = pz_hb t L k j := by
  show (pz_hb t L k j || (decide (pz_nn t L k = 1) && decide (pz_sa t L (nI k) 4 = nI j))) = _
  rw [h, decide_eq_false (by decide), Bool.false_and, Bool.or_false]
theorem pz_hb_0 (hc : pz_cm t L 4 = 0) (j : Nat) : ∀ k, pz_hb t L k j = false := by
  intro k
  induction k with
  | zero => rfl
  | succ k ih => rw [pz_hb_n (pz_nn0 (Or.inl hc)), ih]
theorem pz_hb_ge (j : Nat) : ∀ d, pz_hb t L (L 4 + d) j = pz_hb t L (L 4) j := by
  intro d
  induction d with
  | zero => rfl
  | succ d ih => exact (pz_hb_n (k := L 4 + d) (pz_nn0 (Or.inr (by omega)))).trans ih
theorem pz_X_kinds (H : pz_R c g t L) (hc : pz_cm t L 4 = 1) {post : Int32 → Prop} (h : post (pz_nk (pz_hb t L (L 4)) 16)) : ∃ n, wX_kinds_15 post c g n 0 0 0 := by
  have hL := H.2.2.1
  have key : ∀ d k n x, k + d = L 4 → d < n → (∀ j, j < 16 → bt x j = pz_hb t L k j) → wX_kinds_15 post c g n x (pz_nk (pz_hb t L k) 16) (nI k) := by
    intro d
    induction d with
    | zero =>
      intro k n x hk hn hx
      obtain ⟨n, rfl⟩ : ∃ m, n = m + 1 := ⟨n - 1, by omega⟩
      have hk' : k = L 4 := by omega
      subst hk'
      have hle : g 4 ≤ nI (L 4) := by rw [H.1 4 (by decide)]; exact nI_le (by omega) (by omega)
      exact br_t hle h
    | succ d ih =>
      intro k n x hk hn hx
      obtain ⟨n, rfl⟩ : ∃ m, n = m + 1 := ⟨n - 1, by omega⟩
      have hle : ¬ g 4 ≤ nI k := by rw [H.1 4 (by decide)]; exact nI_ge (by omega) (by omega)
      obtain ⟨s, hs, es⟩ := pz_sa16 t L (nI k)
      have st := fun j (hj : j < 16) => pz_hb_s (pz_nn1 hc (show k < L 4 by omega)) hs es hj
      refine br_f hle (pz_X_fitsAt H _ ?_)
      rw [es]
      refine nm_e ?_
      by_cases z : bt x s = false
      · have := ih (k + 1) n (x ||| ((1 : Int32) <<< (nI s &&& 31))) (by omega) (by omega) (fun j hj => by rw [pz_or1 hs hj, hx j hj, st j hj])
        rw [pz_nk_s (s := s) ((hx s hs).symm.trans z) st 16 (by decide), if_pos hs, ← nI_1] at this
        exact br_t ((pz_and0 hs).mpr z) (nm_e (nm_e (nm_e this)))
      · have z' : pz_hb t L k s = true := by
          rw [← hx s hs]
          cases w : bt x s
          · exact absurd w z
          · rfl
        have same : ∀ j, j < 16 → pz_hb t L (k + 1) j = pz_hb t L k j := by
          intro j hj
          rw [st j hj]
          by_cases w : j = s
          · rw [w, z', Bool.true_or]
          · rw [decide_eq_false w, Bool.or_false]
        have := ih (k + 1) n x (by omega) (by omega) (fun j hj => by rw [hx j hj, same j hj])
        rw [pz_nk_c 16 same, ← nI_1] at this
        exact br_f (fun w => z ((pz_and0 hs).mp w)) (nm_e this)
  exact ⟨L 4 + 1, key (L 4) 0 _ 0 (by omega) (by omega) (fun j _ => b_0 j)⟩
def pz_bi (b : Bool) : Int32 := if b = true then 1 else 0
theorem pz_Y_kin (H : pz_R c g t L) {post : Int32 → Prop} {J : Int32 → Int32 → Prop} {x1 : Int32} {j : Nat} (h : J (if pz_hb t L 25 j = true then x1 + 1 else x1) (nI j + 1)) : ∃ n, wY_kinds_15 post J x1 (nI j) g t n 0 0 := by
  have key : ∀ d k n, k + d = 25 → d < n → wY_kinds_15 post J x1 (nI j) g t n (pz_bi (pz_hb t L k j)) (nI k) := by
    intro d
    induction d with
    | zero =>
      intro k n hk hn
      obtain ⟨n, rfl⟩ : ∃ m, n = m + 1 := ⟨n - 1, by omega⟩
      have hk' : k = 25 := by omega
      subst hk'
      refine br_t (nI_le (a := 25) (b := 25) (by decide) (by decide)) ?_
      cases w : pz_hb t L 25 j
      · rw [w, if_neg (by decide)] at h
        exact br_t rfl (nm_e h)
      · rw [w, if_pos rfl] at h
        exact br_f (by decide) (nm_e (nm_e h))
    | succ d ih =>
      intro k n hk hn
      obtain ⟨n, rfl⟩ : ∃ m, n = m + 1 := ⟨n - 1, by omega⟩
      refine br_f (nI_ge (b := 25) (by omega) (by decide)) ?_
      have := ih (k + 1) n (by omega) (by omega)
      rw [← nI_1] at this
      have un : pz_hb t L (k + 1) j = (pz_hb t L k j || (decide (pz_nn t L k = 1) && decide (pz_sa t L (nI k) 4 = nI j))) := rfl
      rw [un] at this
      cases w : pz_hb t L k j
      · rw [w, Bool.false_or] at this
        refine br_t rfl (pz_Y_node H _ ?_)
        rw [pz_nd_n (by omega)]
        by_cases z : pz_nn t L k = 1
        · rw [decide_eq_true z, Bool.true_and] at this
          refine br_f (by rw [z]; decide) (pz_Y_fitsAt H _ ?_)
          by_cases y : pz_sa t L (nI k) 4 = nI j
          · rw [decide_eq_true y] at this
            exact br_t y (nm_e this)
          · rw [decide_eq_false y] at this
            exact br_f y (nm_e this)
        · have z0 : pz_nn t L k = 0 := by
            unfold pz_nn at z ⊢
            by_cases y : pz_cm t L 4 = 1 ∧ k < L 4
            · rw [if_pos y] at z; exact absurd rfl z
            · rw [if_neg y]
          rw [decide_eq_false z, Bool.false_and] at this
          exact br_t z0 (nm_e this)
      · rw [w, Bool.true_or] at this
        exact br_f (by decide) (nm_e this)
  exact ⟨26, key 25 0 26 rfl (by decide)⟩
theorem pz_Y_kinds (H : pz_R c g t L) {post : Int32 → Prop} (h : post (pz_nk (pz_hb t L 25) 16)) : wpY_kinds post (g, t) := by
  have key : ∀ d j n, j + d = 16 → d < n → wY_kinds_4 post g t n (pz_nk (pz_hb t L 25) j) (nI j) := by
    intro d
    induction d with
    | zero =>
      intro j n hj hn
      obtain ⟨n, rfl⟩ : ∃ m, n = m + 1 := ⟨n - 1, by omega⟩
      have hj' : j = 16 := by omega
      subst hj'
      exact br_t (nI_le (a := 16) (b := 16) (by decide) (by decide)) h
    | succ d ih =>
      intro j n hj hn
      obtain ⟨n, rfl⟩ : ∃ m, n = m + 1 := ⟨n - 1, by omega⟩
      have := ih (j + 1) n (by omega) (by omega)
      rw [← nI_1] at this
      exact br_f (nI_ge (b := 16) (by omega) (by decide)) (pz_Y_kin H this)
  exact ⟨17, key 16 0 17 rfl (by decide)⟩
end
theorem i_vc_kinds {k : Nat} {u : SX} {v : SY} (I : i_Rel k u v) (hk : k + 4 ≤ 2048) : wpX_kinds (fun r => wpY_kinds (fun r' => r' = r ∧ i_Rel (k + 4) u v) v) u := by
  obtain ⟨c, g⟩ := u
  obtain ⟨g', t⟩ := v
  obtain ⟨e, L, H⟩ := I
  cases e
  have hL := H.2.2.1
  unfold wpX_kinds
  dsimp only
  refine pz_X_whole H ?_
  rcases pz_cm01 t L 4 with hc | hc
  · exact br_t hc (pz_Y_kinds H ⟨pz_nk_0 16 (fun j => pz_hb_0 hc j 25), rfl, L, H⟩)
  · refine br_f (by rw [hc]; decide) (pz_X_kinds H hc (pz_Y_kinds H ⟨?_, rfl, L, H⟩))
    refine pz_nk_c 16 (fun j _ => ?_)
    have := pz_hb_ge (t := t) (L := L) j (25 - L 4)
    rw [show L 4 + (25 - L 4) = 25 by omega] at this
    exact this
