theorem re_e (i p : Nat) : nI i + 2 * nI p = nI (i + 2 * p) := by rw [← ra_2, pk_mul, nI_add]
theorem re_gt {p : Nat} (h : p = 17) : (16 : Int32) < nI p := by rw [← ra_16]; exact nI_lt (by omega) (by omega)
theorem re_ngt {p : Nat} (h : p ≤ 16) : ¬ (16 : Int32) < nI p := by rw [← ra_16]; exact nI_nlt h (by omega)
theorem re_m1 : (-1 : Int32) < 0 := by decide
theorem re_tail (i n : Nat) (a : Nat → Int32) (hn : n ≤ 32) (hi : i < n) : ∀ d p : Nat, p + d = 17 → n < i + 2 * p → ∀ (post : Int32 → Prop) (J : Int32 → Int32 → Prop) (c : Int32), J c (nI (i + 1)) → wY_runs_14 post J (nI i) (nI n) a (d + 1) c (nI p) := by
  intro d
  induction d with
  | zero => intro p hp hx post J c h; exact br_t (re_gt (by omega)) (nm_r (nI_1 i) h)
  | succ d ih =>
    intro p hp hx post J c h
    exact br_f (re_ngt (by omega)) (rd_none i p n a hn hi (by omega) hx _ (br_t re_m1 (nm_r (nI_1 p) (ih (p + 1) (by omega) (by omega) post J c h))))
theorem re_in (i n : Nat) (a : Nat → Int32) (hn : n ≤ 32) (hi : i < n) : ∀ d p : Nat, p + d = 17 → 1 ≤ p → ∀ c : Int32, ∃ c' : Int32, (∀ (post : Int32 → Prop) (J : Int32 → Int32 → Prop), J c' (nI (i + 1)) → ∃ f : Nat, wX_runs_14 post J (nI i) (nI n) a f c (nI p)) ∧ (∀ (post : Int32 → Prop) (J : Int32 → Int32 → Prop), J c' (nI (i + 1)) → wY_runs_14 post J (nI i) (nI n) a (d + 1) c (nI p)) := by
  intro d
  induction d with
  | zero =>
    intro p hp h1 c
    have cX : nI n < nI i + 2 * nI p := by rw [re_e]; exact nI_lt (by omega) (by omega)
    exact ⟨c, fun post J h => ⟨1, br_t cX (nm_r (nI_1 i) h)⟩, fun post J h => re_tail i n a hn hi 0 p hp (by omega) post J c h⟩
  | succ d ih =>
    intro p hp h1 c
    by_cases hx : n < i + 2 * p
    · have cX : nI n < nI i + 2 * nI p := by rw [re_e]; exact nI_lt (by omega) (by omega)
      exact ⟨c, fun post J h => ⟨1, br_t cX (nm_r (nI_1 i) h)⟩, fun post J h => re_tail i n a hn hi (d + 1) p hp hx post J c h⟩
    · have cX : ¬ nI n < nI i + 2 * nI p := by rw [re_e]; exact nI_nlt (by omega) (by omega)
      rcases rd_run i p n a hn (by omega) with ⟨hX, hY⟩ | ⟨j, j1, j2, hX, _, hY⟩
      · obtain ⟨c', rX, rY⟩ := ih (p + 1) (by omega) (by omega) c
        refine ⟨c', fun post J h => ?_, fun post J h => ?_⟩
        · obtain ⟨f, hf⟩ := rX post J h
          exact ⟨f + 1, br_f cX (hX _ (br_t rfl (nm_r (nI_1 p) hf)))⟩
        · exact br_f (re_ngt (by omega)) (hY _ (br_t re_m1 (nm_r (nI_1 p) (rY post J h))))
      · obtain ⟨c', rX, rY⟩ := ih (p + 1) (by omega) (by omega) (c + 1)
        refine ⟨c', fun post J h => ?_, fun post J h => ?_⟩
        · obtain ⟨f, hf⟩ := rX post J h
          exact ⟨f + 1, br_f cX (hX _ (br_f (by decide) (nm_e (nm_r (nI_1 p) hf))))⟩
        · exact br_f (re_ngt (by omega)) (hY _ (br_f (nI_pos (by omega)) (nm_e (nm_r (nI_1 p) (rY post J h)))))
theorem re_out (n : Nat) (a : Nat → Int32) (hn : n ≤ 32) : ∀ d i : Nat, i + d = n → ∀ c : Int32, ∃ r : Int32, (∀ post : Int32 → Prop, post r → wX_runs_4 post (nI n) a (d + 1) c (nI i)) ∧ (∀ post : Int32 → Prop, post r → wY_runs_4 post (nI n) a (d + 1) c (nI i)) := by
  intro d
  induction d with
  | zero =>
    intro i hi c
    exact ⟨c, fun post h => br_t (nI_le (by omega) (by omega)) h, fun post h => br_t (nI_le (by omega) (by omega)) h⟩
  | succ d ih =>
    intro i hi c
    have h : ¬ nI n ≤ nI i := nI_ge (by omega) (by omega)
    obtain ⟨c', hX, hY⟩ := re_in i n a hn (by omega) 16 1 (by omega) (by omega) c
    obtain ⟨r, rX, rY⟩ := ih (i + 1) (by omega) c'
    exact ⟨r, fun post q => br_f h (hX post _ (rX post q)), fun post q => br_f h ⟨_, hY post _ (rY post q)⟩⟩
theorem i_vc_runs {k : Nat} {u : SX} {v : SY} (I : i_Rel k u v) (hk : k + 3 ≤ 1536) : wpX_runs (fun r => wpY_runs (fun r' => r' = r ∧ i_Rel (k + 3) u v) v) u := by
  obtain ⟨n, a, hn, rfl, rfl⟩ := I
  unfold wpX_runs wpY_runs
  dsimp only
  obtain ⟨r, rX, rY⟩ := re_out n a hn n 0 (by omega) 0
  exact ⟨_, rX _ ⟨_, rY _ ⟨rfl, n, a, hn, rfl, rfl⟩⟩⟩
theorem rf_tail (i n : Nat) (a : Nat → Int32) (hn : n ≤ 32) (hi : i < n) : ∀ d p : Nat, p + d = 17 → n < i + 2 * p → ∀ (post : Int32 → Prop) (J : Int32 → Int32 → Prop) (c : Int32), J c (nI (i + 1)) → wY_squares_14 post J (nI i) (nI n) a (d + 1) c (nI p) := by
  intro d
  induction d with
  | zero => intro p hp hx post J c h; exact br_t (re_gt (by omega)) (nm_r (nI_1 i) h)
  | succ d ih =>
    intro p hp hx post J c h
    have cX : nI n < nI i + 2 * nI p := by rw [re_e]; exact nI_lt (by omega) (by omega)
    exact br_f (re_ngt (by omega)) (br_t cX (nm_r (nI_1 p) (ih (p + 1) (by omega) (by omega) post J c h)))
theorem rf_in (i n : Nat) (a : Nat → Int32) (hn : n ≤ 32) (hi : i < n) : ∀ d p : Nat, p + d = 17 → 1 ≤ p → ∀ c : Int32, ∃ c' : Int32, (∀ (post : Int32 → Prop) (J : Int32 → Int32 → Prop), J c' (nI (i + 1)) → ∃ f : Nat, wX_squares_14 post J (nI i) (nI n) a f c (nI p)) ∧ (∀ (post : Int32 → Prop) (J : Int32 → Int32 → Prop), J c' (nI (i + 1)) → wY_squares_14 post J (nI i) (nI n) a (d + 1) c (nI p)) := by
  intro d
  induction d with
  | zero =>
    intro p hp h1 c
    have cX : nI n < nI i + 2 * nI p := by rw [re_e]; exact nI_lt (by omega) (by omega)
    exact ⟨c, fun post J h => ⟨1, br_t cX (nm_r (nI_1 i) h)⟩, fun post J h => rf_tail i n a hn hi 0 p hp (by omega) post J c h⟩
  | succ d ih =>
    intro p hp h1 c
    by_cases hx : n < i + 2 * p
    · have cX : nI n < nI i + 2 * nI p := by rw [re_e]; exact nI_lt (by omega) (by omega)
      exact ⟨c, fun post J h => ⟨1, br_t cX (nm_r (nI_1 i) h)⟩, fun post J h => rf_tail i n a hn hi (d + 1) p hp hx post J c h⟩
    · have cX : ¬ nI n < nI i + 2 * nI p := by rw [re_e]; exact nI_nlt (by omega) (by omega)
      have H := rc_has (nI n) a i (i + 2 * p) p (by omega) (by omega)
      rw [← re_e] at H
      rcases H with ⟨hX, hY⟩ | ⟨hX, hY⟩
      · obtain ⟨c', rX, rY⟩ := ih (p + 1) (by omega) (by omega) (c + 1)
        refine ⟨c', fun post J h => ?_, fun post J h => ?_⟩
        · obtain ⟨f, hf⟩ := rX post J h
          exact ⟨f + 1, br_f cX (hX _ (br_f (by decide) (nm_e (nm_r (nI_1 p) hf))))⟩
        · exact br_f (re_ngt (by omega)) (br_f cX (hY _ (br_f (by decide) (nm_e (nm_r (nI_1 p) (rY post J h))))))
      · obtain ⟨c', rX, rY⟩ := ih (p + 1) (by omega) (by omega) c
        refine ⟨c', fun post J h => ?_, fun post J h => ?_⟩
        · obtain ⟨f, hf⟩ := rX post J h
          exact ⟨f + 1, br_f cX (hX _ (br_t rfl (nm_r (nI_1 p) hf)))⟩
        · exact br_f (re_ngt (by omega)) (br_f cX (hY _ (br_t rfl (nm_r (nI_1 p) (rY post J h)))))
theorem rf_out (n : Nat) (a : Nat → Int32) (hn : n ≤ 32) : ∀ d i : Nat, i + d = n → ∀ c : Int32, ∃ r : Int32, (∀ post : Int32 → Prop, post r → wX_squares_4 post (nI n) a (d + 1) c (nI i)) ∧ (∀ post : Int32 → Prop, post r → wY_squares_4 post (nI n) a (d + 1) c (nI i)) := by
  intro d
  induction d with
  | zero =>
    intro i hi c
    exact ⟨c, fun post h => br_t (nI_le (by omega) (by omega)) h, fun post h => br_t (nI_le (by omega) (by omega)) h⟩
  | succ d ih =>
    intro i hi c
    have h : ¬ nI n ≤ nI i := nI_ge (by omega) (by omega)
    obtain ⟨c', hX, hY⟩ := rf_in i n a hn (by omega) 16 1 (by omega) (by omega) c
    obtain ⟨r, rX, rY⟩ := ih (i + 1) (by omega) c'
    exact ⟨r, fun post q => br_f h (hX post _ (rX post q)), fun post q => br_f h ⟨_, hY post _ (rY post q)⟩⟩
theorem i_vc_squares {k : Nat} {u : SX} {v : SY} (I : i_Rel k u v) (hk : k + 3 ≤ 1536) : wpX_squares (fun r => wpY_squares (fun r' => r' = r ∧ i_Rel (k + 3) u v) v) u := by
  obtain ⟨n, a, hn, rfl, rfl⟩ := I
  unfold wpX_squares wpY_squares
  dsimp only
  obtain ⟨r, rX, rY⟩ := rf_out n a hn n 0 (by omega) 0
  exact ⟨_, rX _ ⟨_, rY _ ⟨rfl, n, a, hn, rfl, rfl⟩⟩⟩
