/-- the place x of a text of n letters, around the end -/
def rj_w (n x : Nat) : Nat := if n ≤ x then x - n else x
theorem rj_lt {n x : Nat} (h : x < 2 * n) : rj_w n x < n := by
  unfold rj_w
  split <;> omega
theorem rj_aX (n x : Nat) (a : Nat → Int32) (hn : n ≤ 32) (hx : x < 2 * n) (post : Int32 → Prop) (h : post (nI (rj_w n x))) : wpX_around post (nI n, a) (nI x) := by
  unfold rj_w at h
  unfold wpX_around
  dsimp only
  by_cases c : n ≤ x
  · rw [if_pos c] at h
    refine br_t (nI_le c (by omega)) ?_
    rw [pk_sub c]
    exact h
  · rw [if_neg c] at h
    exact br_f (nI_ge (by omega) (by omega)) h
theorem rj_loop (n x y : Nat) (a : Nat → Int32) (hn : n ≤ 32) (hx : x < n) (hy : y < n) : ∀ d k : Nat, k + d = n → ((∀ post : Int32 → Prop, post 1 → wX_turnIsSmaller_2 post (nI x) (nI y) (nI n) a (d + 1) (nI k)) ∧ (∀ post : Int32 → Prop, post 1 → wY_turnSmaller_2 post (nI x) (nI y) (nI n) a (d + 1) (nI k))) ∨ ((∀ post : Int32 → Prop, post 0 → wX_turnIsSmaller_2 post (nI x) (nI y) (nI n) a (d + 1) (nI k)) ∧ (∀ post : Int32 → Prop, post 0 → wY_turnSmaller_2 post (nI x) (nI y) (nI n) a (d + 1) (nI k))) := by
  intro d
  induction d with
  | zero =>
    intro k hk
    exact Or.inr ⟨fun post hp => br_t (nI_le (by omega) (by omega)) hp, fun post hp => br_t (nI_le (by omega) (by omega)) hp⟩
  | succ d ih =>
    intro k hk
    have c : ¬ nI n ≤ nI k := nI_ge (by omega) (by omega)
    have l1 : rj_w n (x + k) < n := rj_lt (by omega)
    have l2 : rj_w n (y + k) < n := rj_lt (by omega)
    have i1 : vp_in (nI (rj_w n (x + k))) 32 := vp_in_nI (by omega) (by omega)
    have i2 : vp_in (nI (rj_w n (y + k))) 32 := vp_in_nI (by omega) (by omega)
    have sX : ∀ post : Int32 → Prop, ((a (nI (rj_w n (x + k))).toNatClampNeg = a (nI (rj_w n (y + k))).toNatClampNeg → wX_turnIsSmaller_2 post (nI x) (nI y) (nI n) a (d + 1) (nI (k + 1))) ∧ (¬ a (nI (rj_w n (x + k))).toNatClampNeg = a (nI (rj_w n (y + k))).toNatClampNeg → ((a (nI (rj_w n (y + k))).toNatClampNeg ≤ a (nI (rj_w n (x + k))).toNatClampNeg → post 0) ∧ (¬ a (nI (rj_w n (y + k))).toNatClampNeg ≤ a (nI (rj_w n (x + k))).toNatClampNeg → post 1)))) → wX_turnIsSmaller_2 post (nI x) (nI y) (nI n) a (d + 1 + 1) (nI k) := by
      intro post h
      refine br_f c ?_
      rw [nI_add, nI_add]
      refine rj_aX n (x + k) a hn (by omega) _ ⟨i1, nm_e ?_⟩
      refine rj_aX n (y + k) a hn (by omega) _ ⟨i2, nm_e ?_⟩
      exact ⟨fun z => nm_r (nI_1 k) (h.1 z), h.2⟩
    have s6 : ∀ post : Int32 → Prop, ((a (nI (rj_w n (x + k))).toNatClampNeg = a (nI (rj_w n (y + k))).toNatClampNeg → wY_turnSmaller_2 post (nI x) (nI y) (nI n) a (d + 1) (nI (k + 1))) ∧ (¬ a (nI (rj_w n (x + k))).toNatClampNeg = a (nI (rj_w n (y + k))).toNatClampNeg → ((a (nI (rj_w n (y + k))).toNatClampNeg ≤ a (nI (rj_w n (x + k))).toNatClampNeg → post 0) ∧ (¬ a (nI (rj_w n (y + k))).toNatClampNeg ≤ a (nI (rj_w n (x + k))).toNatClampNeg → post 1)))) → wY_turnSmaller_60 post (wY_turnSmaller_2 post (nI x) (nI y) (nI n) a (d + 1)) (nI x) (nI y) (nI k) (nI (rj_w n (x + k))) (nI (rj_w n (y + k))) (nI n) a := by
      intro post h
      exact ⟨i1, i2, fun z => nm_r (nI_1 k) (h.1 z), fun z => ⟨i1, i2, h.2 z⟩⟩
    have s3 : ∀ (post : Int32 → Prop) (z0 : Int32), wY_turnSmaller_60 post (wY_turnSmaller_2 post (nI x) (nI y) (nI n) a (d + 1)) (nI x) (nI y) (nI k) z0 (nI (rj_w n (y + k))) (nI n) a → wY_turnSmaller_34 post (wY_turnSmaller_2 post (nI x) (nI y) (nI n) a (d + 1)) (nI x) (nI y) (nI k) z0 (nI n) a := by
      intro post z0 h
      unfold rj_w at h
      unfold wY_turnSmaller_34
      rw [nI_add]
      by_cases q : n ≤ y + k
      · rw [if_pos q] at h
        refine br_t (nI_le q (by omega)) ?_
        rw [pk_sub q]
        exact h
      · rw [if_neg q] at h
        exact br_f (nI_ge (by omega) (by omega)) h
    have s2 : ∀ post : Int32 → Prop, wY_turnSmaller_34 post (wY_turnSmaller_2 post (nI x) (nI y) (nI n) a (d + 1)) (nI x) (nI y) (nI k) (nI (rj_w n (x + k))) (nI n) a → wY_turnSmaller_2 post (nI x) (nI y) (nI n) a (d + 1 + 1) (nI k) := by
      intro post h
      unfold rj_w at h
      refine br_f c ?_
      rw [nI_add]
      by_cases q : n ≤ x + k
      · rw [if_pos q] at h
        refine br_t (nI_le q (by omega)) ?_
        rw [pk_sub q]
        exact h
      · rw [if_neg q] at h
        exact br_f (nI_ge (by omega) (by omega)) h
    by_cases z : a (nI (rj_w n (x + k))).toNatClampNeg = a (nI (rj_w n (y + k))).toNatClampNeg
    · rcases ih (k + 1) (by omega) with ⟨hX, hY⟩ | ⟨hX, hY⟩
      · exact Or.inl ⟨fun post hp => sX post (br_t z (hX post hp)), fun post hp => s2 post (s3 post _ (s6 post (br_t z (hY post hp))))⟩
      · exact Or.inr ⟨fun post hp => sX post (br_t z (hX post hp)), fun post hp => s2 post (s3 post _ (s6 post (br_t z (hY post hp))))⟩
    · by_cases g : a (nI (rj_w n (y + k))).toNatClampNeg ≤ a (nI (rj_w n (x + k))).toNatClampNeg
      · exact Or.inr ⟨fun post hp => sX post (br_f z (br_t g hp)), fun post hp => s2 post (s3 post _ (s6 post (br_f z (br_t g hp))))⟩
      · exact Or.inl ⟨fun post hp => sX post (br_f z (br_f g hp)), fun post hp => s2 post (s3 post _ (s6 post (br_f z (br_f g hp))))⟩
theorem rj_out (n : Nat) (a : Nat → Int32) (hn : n ≤ 32) : ∀ d i : Nat, i + d = n → ∀ b : Nat, b < n → ∃ r : Int32, (∀ post : Int32 → Prop, post r → wX_smallestTurn_14 post (nI n) a (d + 1) (nI b) (nI i)) ∧ (∀ post : Int32 → Prop, post r → wY_smallestTurn_14 post (nI n) a (d + 1) (nI b) (nI i)) := by
  intro d
  induction d with
  | zero =>
    intro i hi b hb
    exact ⟨nI b, fun post h => br_t (nI_le (by omega) (by omega)) h, fun post h => br_t (nI_le (by omega) (by omega)) h⟩
  | succ d ih =>
    intro i hi b hb
    have h : ¬ nI n ≤ nI i := nI_ge (by omega) (by omega)
    rcases rj_loop n i b a hn (by omega) hb n 0 (by omega) with ⟨hX, hY⟩ | ⟨hX, hY⟩
    · obtain ⟨r, rX, rY⟩ := ih (i + 1) (by omega) i (by omega)
      exact ⟨r, fun post q => br_f h ⟨_, hX _ (br_f (by decide) (nm_r (nI_1 i) (rX post q)))⟩, fun post q => br_f h ⟨_, hY _ (br_f (by decide) (nm_r (nI_1 i) (rY post q)))⟩⟩
    · obtain ⟨r, rX, rY⟩ := ih (i + 1) (by omega) b hb
      exact ⟨r, fun post q => br_f h ⟨_, hX _ (br_t rfl (nm_r (nI_1 i) (rX post q)))⟩, fun post q => br_f h ⟨_, hY _ (br_t rfl (nm_r (nI_1 i) (rY post q)))⟩⟩
theorem i_vc_smallestTurn {k : Nat} {u : SX} {v : SY} (I : i_Rel k u v) (hk : k + 3 ≤ 1536) : wpX_smallestTurn (fun r => wpY_smallestTurn (fun r' => r' = r ∧ i_Rel (k + 3) u v) v) u := by
  obtain ⟨n, a, hn, rfl, rfl⟩ := I
  unfold wpX_smallestTurn wpY_smallestTurn
  dsimp only
  cases n with
  | zero => exact br_t rfl (br_t rfl ⟨rfl, 0, a, hn, rfl, rfl⟩)
  | succ n =>
    have h0 : ¬ nI (n + 1) = 0 := nI_ne0 (by omega) (by omega)
    obtain ⟨r, rX, rY⟩ := rj_out (n + 1) a hn n 1 (by omega) 0 (by omega)
    refine br_f h0 ⟨_, rX _ ?_⟩
    refine br_f h0 ⟨_, rY _ ?_⟩
    exact ⟨rfl, n + 1, a, hn, rfl, rfl⟩
