section
theorem pk_us {f : Nat → Int32} {k : Nat} {x : Int32} : upd f k x k = x := if_pos rfl
theorem pk_un {f : Nat → Int32} {k j : Nat} {x : Int32} (h : j ≠ k) : upd f k x j = f j := if_neg h
theorem pk_sub {a b : Nat} (h : b ≤ a) : nI a - nI b = nI (a - b) := by
  obtain ⟨c, rfl⟩ : ∃ c, a = c + b := ⟨a - b, by omega⟩
  rw [← nI_add, Int32.add_sub_cancel, Nat.add_sub_cancel]
theorem pk_m1 (n : Nat) : nI (n + 1) + (-1) = nI n := by
  rw [← nI_1, Int32.add_assoc, show (1 : Int32) + (-1) = 0 from rfl, Int32.add_zero]
theorem pk_mul (a b : Nat) : nI a * nI b = nI (a * b) := (Int32.ofNat_mul a b).symm
theorem pk_div {a d : Nat} (ha : a < 2 ^ 31) (h0 : 0 < d) (hd : d < 2 ^ 31) : nI a / nI d = nI (a / d) := by
  apply Int32.toInt_inj.mp
  rw [lg_idiv_nonneg (by rw [nI_toInt ha]; omega) (by rw [nI_toInt hd]; omega), nI_toInt ha, nI_toInt hd, nI_toInt (Nat.lt_of_le_of_lt (Nat.div_le_self a d) ha)]
  first | rfl | exact (Int.natCast_ediv _ _).symm
theorem pk_rem {a d : Nat} (ha : a < 2 ^ 31) (h0 : 0 < d) (hd : d < 2 ^ 31) : nI a - nI a / nI d * nI d = nI (a % d) := by
  rw [pk_div ha h0 hd, pk_mul, pk_sub (Nat.div_mul_le_self a d)]
  exact congrArg nI (by have := Nat.div_add_mod' a d; omega)
theorem pk_sub_toInt {a b : Nat} (ha : a < 2 ^ 30) (hb : b < 2 ^ 30) : (nI a - nI b).toInt = (a : Int) - b := by
  rw [Int32.toInt_sub, nI_toInt (by omega), nI_toInt (by omega)]
  exact Int.bmod_eq_of_le (by omega) (by omega)
theorem pk_sneg {a b : Nat} (hb : b < 2 ^ 30) (h : a < b) : nI a - nI b < 0 := by
  rw [Int32.lt_iff_toInt_lt, pk_sub_toInt (by omega) hb, show (0 : Int32).toInt = 0 from by decide]
  omega
theorem pk_ix (x : Int32) {n : Nat} (hn : n < 2 ^ 31) : x < 0 ∨ nI n ≤ x ∨ ∃ j : Nat, j < n ∧ x = nI j := by
  by_cases h : x < 0
  · exact Or.inl h
  · obtain ⟨j, hj, rfl⟩ := nI_of h
    by_cases h2 : j < n
    · exact Or.inr (Or.inr ⟨j, h2, rfl⟩)
    · exact Or.inr (Or.inl (nI_le (by omega) hj))
theorem pk_le {x y : Int32} {A B : Prop} (a b : Nat) (f : a ≤ b → A) (g : b < a → B) (hx : x = nI a := by rfl) (hy : y = nI b := by rfl) (ha : a < 2 ^ 31 := by omega) (hb : b < 2 ^ 31 := by omega) : (x ≤ y → A) ∧ (¬ x ≤ y → B) := by
  subst hx hy
  rw [nI_leI ha hb]
  exact ⟨f, fun z => g (by omega)⟩
theorem pk_lt {x y : Int32} {A B : Prop} (a b : Nat) (f : a < b → A) (g : b ≤ a → B) (hx : x = nI a := by rfl) (hy : y = nI b := by rfl) (ha : a < 2 ^ 31 := by omega) (hb : b < 2 ^ 31 := by omega) : (x < y → A) ∧ (¬ x < y → B) := by
  subst hx hy
  rw [nI_ltI ha hb]
  exact ⟨f, fun z => g (by omega)⟩
theorem pk_eq {x y : Int32} {A B : Prop} (a b : Nat) (f : a = b → A) (g : a ≠ b → B) (hx : x = nI a := by rfl) (hy : y = nI b := by rfl) (ha : a < 2 ^ 31 := by omega) (hb : b < 2 ^ 31 := by omega) : (x = y → A) ∧ (¬ x = y → B) := by
  subst hx hy
  rw [nI_eq ha hb]
  exact ⟨f, g⟩
theorem pk_in {x : Int32} (n N : Nat) (h : n < N) (hx : x = nI n := by rfl) (hN : N < 2 ^ 31 := by omega) : vp_in x N := by
  subst hx
  exact vp_in_nI h hN
theorem pk_cl {x : Int32} (n : Nat) (hx : x = nI n := by rfl) (h : n < 2 ^ 31 := by omega) : x.toNatClampNeg = n := by
  subst hx
  exact nI_clamp h
theorem ra_1024 : nI 1024 = 1024 := by decide +kernel
theorem ra_64 : nI 64 = 64 := by decide +kernel
theorem ra_32 : nI 32 = 32 := by decide +kernel
theorem ra_16 : nI 16 = 16 := by decide +kernel
theorem ra_2 : nI 2 = 2 := by decide +kernel
theorem ra_1 : nI 1 = 1 := by decide +kernel
theorem ra_i3 : (3 : Int32).toInt = 3 := by decide +kernel
theorem ra_i4 : (4 : Int32).toInt = 4 := by decide +kernel
theorem ra_43 {x : Int32} (h : (4 : Int32) ≤ x) : ¬ x ≤ 3 := by
  rw [Int32.le_iff_toInt_le, ra_i4] at h
  rw [Int32.le_iff_toInt_le, ra_i3]
  omega
theorem ra_34 {x : Int32} (h : ¬ (4 : Int32) ≤ x) : x ≤ 3 := by
  rw [Int32.le_iff_toInt_le, ra_i4] at h
  rw [Int32.le_iff_toInt_le, ra_i3]
  omega
/-- both texts have one length, at most 32, and the same letters -/
def i_Rel (_ : Nat) (u : SX) (v : SY) : Prop := ∃ n : Nat, ∃ a : Nat → Int32, n ≤ 32 ∧ u = (nI n, a) ∧ v = (nI n, a)
theorem i_up {k : Nat} {u : SX} {v : SY} (h : i_Rel k u v) : i_Rel (k + 3) u v := h
theorem i_vc0 : wpX_init (fun u => wpY_init (fun v => i_Rel 0 u v)) := ⟨0, fun _ => 0, by omega, rfl, rfl⟩
theorem i_vc_append {k : Nat} {u : SX} {v : SY} (I : i_Rel k u v) (hk : k + 3 ≤ 1536) (v1 : Int32) : wpX_append (fun r u' => wpY_append (fun r' v' => r' = r ∧ i_Rel (k + 3) u' v') v v1) u v1 := by
  obtain ⟨n, a, hn, rfl, rfl⟩ := I
  unfold wpX_append wpX_isLetter
  dsimp only
  by_cases h0 : v1 < 0
  · refine br_t h0 (br_t rfl ?_)
    exact br_t h0 ⟨rfl, n, a, hn, rfl, rfl⟩
  · by_cases h4 : (4 : Int32) ≤ v1
    · refine br_f h0 (br_t h4 (br_t rfl ?_))
      exact br_f h0 (br_f (ra_43 h4) ⟨rfl, n, a, hn, rfl, rfl⟩)
    · have h3 : v1 ≤ 3 := ra_34 h4
      refine br_f h0 (br_f h4 (br_f (by decide) ?_))
      refine pk_lt n 32 (fun hl => ⟨pk_in n 32 hl, nm_e (nm_r (nI_1 n) ?_)⟩) (fun hl => ?_)
      · have hne : ¬ nI n = 32 := by
          rw [← ra_32, nI_eq (by omega) (by omega)]
          omega
        exact br_f h0 (br_t h3 (br_f hne ⟨pk_in n 32 hl, nm_e (nm_r (nI_1 n) ⟨rfl, n + 1, _, by omega, rfl, rfl⟩)⟩))
      · have he : nI n = 32 := by
          rw [← ra_32, nI_eq (by omega) (by omega)]
          omega
        exact br_f h0 (br_t h3 (br_t he ⟨rfl, n, a, hn, rfl, rfl⟩))
theorem i_vc_set {k : Nat} {u : SX} {v : SY} (I : i_Rel k u v) (hk : k + 3 ≤ 1536) (v1 : Int32) (v2 : Int32) : wpX_set (fun r u' => wpY_set (fun r' v' => r' = r ∧ i_Rel (k + 3) u' v') v v1 v2) u v1 v2 := by
  obtain ⟨n, a, hn, rfl, rfl⟩ := I
  unfold wpX_set wpX_isLetter
  dsimp only
  by_cases p0 : v1 < 0
  · refine br_t p0 ?_
    exact br_t p0 ⟨rfl, n, a, hn, rfl, rfl⟩
  · by_cases p1 : v1 < nI n
    · have hi : vp_in v1 32 := by
        obtain ⟨j, hj, rfl⟩ := nI_of p0
        rw [nI_ltI hj (by omega)] at p1
        exact vp_in_nI (by omega) (by omega)
      by_cases h0 : v2 < 0
      · refine br_f p0 (br_t p1 (br_t h0 (br_t rfl ?_)))
        exact br_f p0 (br_t p1 (br_t h0 ⟨rfl, n, a, hn, rfl, rfl⟩))
      · by_cases h4 : (4 : Int32) ≤ v2
        · refine br_f p0 (br_t p1 (br_f h0 (br_t h4 (br_t rfl ?_))))
          exact br_f p0 (br_t p1 (br_f h0 (br_f (ra_43 h4) ⟨rfl, n, a, hn, rfl, rfl⟩)))
        · refine br_f p0 (br_t p1 (br_f h0 (br_f h4 (br_f (by decide) ⟨hi, nm_e ⟨hi, nm_e ?_⟩⟩))))
          exact br_f p0 (br_t p1 (br_f h0 (br_t (ra_34 h4) ⟨hi, nm_e ⟨hi, nm_e ⟨rfl, n, _, hn, rfl, rfl⟩⟩⟩)))
    · refine br_f p0 (br_f p1 ?_)
      exact br_f p0 (br_f p1 ⟨rfl, n, a, hn, rfl, rfl⟩)
theorem i_vc_drop {k : Nat} {u : SX} {v : SY} (I : i_Rel k u v) (hk : k + 3 ≤ 1536) : wpX_drop (fun r u' => wpY_drop (fun r' v' => r' = r ∧ i_Rel (k + 3) u' v') v) u := by
  obtain ⟨n, a, hn, rfl, rfl⟩ := I
  unfold wpX_drop
  dsimp only
  cases n with
  | zero =>
    refine br_t rfl ?_
    exact br_t rfl ⟨rfl, 0, a, hn, rfl, rfl⟩
  | succ n =>
    have h : ¬ nI (n + 1) = 0 := nI_ne0 (by omega) (by omega)
    refine br_f h (nm_r (nI_pred n) ?_)
    exact br_f h (nm_r (nI_pred n) ⟨rfl, n, a, by omega, rfl, rfl⟩)
theorem i_vc_clear {k : Nat} {u : SX} {v : SY} (I : i_Rel k u v) (hk : k + 3 ≤ 1536) : wpX_clear (fun u' => wpY_clear (fun v' => i_Rel (k + 3) u' v') v) u := by
  obtain ⟨n, a, hn, rfl, rfl⟩ := I
  exact ⟨0, a, by omega, rfl, rfl⟩
theorem rb_idle (m : Nat) (hm : m ≤ 32) (x2 : Int32) (a : Nat → Int32) : ∀ d j : Nat, j + d = m → ∀ post : Int32 → SY → Prop, post (nI 32) (nI 32, a) → wY_repeat_25 post (nI m) x2 (d + 1) (nI j) (nI 32) a := by
  intro d
  induction d with
  | zero => intro j hj post hp; exact br_t (nI_le (by omega) (by omega)) hp
  | succ d ih =>
    intro j hj post hp
    exact br_f (nI_ge (by omega) (by omega)) (br_t (nI_le (a := 32) (b := 32) (by omega) (by omega)) (nm_r (nI_1 j) (ih (j + 1) (by omega) post hp)))
theorem rb_loop (l m c : Nat) (hl : l ≤ 32) (hm : m ≤ l) (hc : (c = m ∧ l + m ≤ 32) ∨ (l + c = 32 ∧ c ≤ m)) : ∀ d j : Nat, j + d = c → ∀ a : Nat → Int32, ∃ a' : Nat → Int32, (∀ post : Int32 → SX → Prop, post (nI (l + c)) (nI (l + c), a') → wX_repeat_46 post (nI (l - m)) (nI c) (nI l) (d + 1) (nI j) a) ∧ (∀ post : Int32 → SY → Prop, post (nI (l + c)) (nI (l + c), a') → ∃ f : Nat, wY_repeat_25 post (nI m) (nI (l - m)) f (nI j) (nI (l + j)) a) := by
  intro d
  induction d with
  | zero =>
    intro j hj a
    have ej : j = c := by omega
    subst ej
    refine ⟨a, fun post hp => br_t (nI_le (by omega) (by omega)) (nm_r (nI_add l j) hp), fun post hp => ?_⟩
    rcases hc with ⟨h1, h2⟩ | ⟨h1, h2⟩
    · exact ⟨1, br_t (nI_le (by omega) (by omega)) hp⟩
    · rw [h1] at hp ⊢
      exact ⟨_, rb_idle m (by omega) _ a (m - j) j (by omega) post hp⟩
  | succ d ih =>
    intro j hj a
    obtain ⟨a', hX, hY⟩ := ih (j + 1) (by omega) (upd a (l + j) (a (l - m + j)))
    have e1 : upd a (nI l + nI j).toNatClampNeg (a (nI (l - m) + nI j).toNatClampNeg) = upd a (l + j) (a (l - m + j)) := by
      rw [nI_add, nI_add, nI_clamp (by omega), nI_clamp (by omega)]
    have e2 : upd a (nI (l + j)).toNatClampNeg (a (nI (l - m) + nI j).toNatClampNeg) = upd a (l + j) (a (l - m + j)) := by
      rw [nI_add, nI_clamp (by omega), nI_clamp (by omega)]
    refine ⟨a', fun post hp => br_f (nI_ge (by omega) (by omega)) ⟨pk_in (l - m + j) 32 (by omega) (nI_add _ _), pk_in (l + j) 32 (by omega) (nI_add _ _), nm_r e1 (nm_r (nI_1 j) (hX post hp))⟩, fun post hp => ?_⟩
    obtain ⟨f, hf⟩ := hY post hp
    have h32 : ¬ (32 : Int32) ≤ nI (l + j) := by rw [← ra_32]; exact nI_ge (by omega) (by omega)
    exact ⟨f + 1, br_f (nI_ge (by omega) (by omega)) (br_f h32 ⟨pk_in (l - m + j) 32 (by omega) (nI_add _ _), pk_in (l + j) 32 (by omega), nm_r e2 (nm_r (nI_1 (l + j)) (nm_r (nI_1 j) hf))⟩)⟩
theorem i_vc_repeat {k : Nat} {u : SX} {v : SY} (I : i_Rel k u v) (hk : k + 3 ≤ 1536) (v1 : Int32) : wpX_repeat (fun r u' => wpY_repeat (fun r' v' => r' = r ∧ i_Rel (k + 3) u' v') v v1) u v1 := by
  obtain ⟨n, a, hn, rfl, rfl⟩ := I
  unfold wpX_repeat
  dsimp only
  by_cases h1 : v1 < 1
  · refine br_t h1 ?_
    exact br_t h1 ⟨rfl, n, a, hn, rfl, rfl⟩
  · by_cases h2 : v1 ≤ nI n
    · have h0 : ¬ v1 < 0 := fun z => h1 (Int32.lt_trans z (by decide))
      obtain ⟨m, hm, rfl⟩ := nI_of h0
      have hmn : m ≤ n := (nI_leI hm (by omega)).mp h2
      have e32 : (32 : Int32) - nI n = nI (32 - n) := by rw [← ra_32]; exact pk_sub hn
      refine br_f h1 (br_t h2 (nm_r (pk_sub hmn) (nm_r e32 (pk_le (32 - n) m (fun hr => ?_) (fun hr => ?_)))))
      · obtain ⟨a', hX, hY⟩ := rb_loop n m (32 - n) hn hmn (by omega) (32 - n) 0 (by omega) a
        refine ⟨_, hX _ ?_⟩
        exact br_f h1 (br_t h2 (nm_r (pk_sub hmn) (hY _ ⟨rfl, _, a', by omega, rfl, rfl⟩)))
      · obtain ⟨a', hX, hY⟩ := rb_loop n m m hn hmn (by omega) m 0 (by omega) a
        refine ⟨_, hX _ ?_⟩
        exact br_f h1 (br_t h2 (nm_r (pk_sub hmn) (hY _ ⟨rfl, _, a', by omega, rfl, rfl⟩)))
    · refine br_f h1 (br_f h2 ?_)
      exact br_f h1 (br_f h2 ⟨rfl, n, a, hn, rfl, rfl⟩)
end
section
theorem rc_hp (L : Int32) (a : Nat → Int32) (p j : Nat) (hj : j ≤ 32) : ∀ d i : Nat, i + p + d = j → ((∀ post : Int32 → Prop, post 1 → wX_hasPeriod_5 post (nI j) (nI p) L a (d + 1) (nI (i + p))) ∧ (∀ post : Int32 → Prop, post 1 → wY_hasPeriod_3 post (nI j) (nI p) L a (d + 1) (nI i))) ∨ ((∀ post : Int32 → Prop, post 0 → wX_hasPeriod_5 post (nI j) (nI p) L a (d + 1) (nI (i + p))) ∧ (∀ post : Int32 → Prop, post 0 → wY_hasPeriod_3 post (nI j) (nI p) L a (d + 1) (nI i))) := by
  intro d
  induction d with
  | zero =>
    intro i h
    refine Or.inl ⟨fun post hp => br_t (nI_le (by omega) (by omega)) hp, fun post hp => br_t ?_ hp⟩
    rw [nI_add]
    exact nI_le (by omega) (by omega)
  | succ d ih =>
    intro i h
    have es : nI (i + p) - nI p = nI i := by rw [pk_sub (by omega), Nat.add_sub_cancel]
    have cX : ¬ nI j ≤ nI (i + p) := nI_ge (by omega) (by omega)
    have cY : ¬ nI j ≤ nI i + nI p := by rw [nI_add]; exact cX
    have i1 : vp_in (nI (i + p)) 32 := pk_in (i + p) 32 (by omega)
    have i2 : vp_in (nI (i + p) - nI p) 32 := pk_in i 32 (by omega) es
    have i3 : vp_in (nI i) 32 := pk_in i 32 (by omega)
    have i4 : vp_in (nI i + nI p) 32 := pk_in (i + p) 32 (by omega) (nI_add i p)
    have w1 : (nI (i + p)).toNatClampNeg = i + p := pk_cl (i + p)
    have w2 : (nI (i + p) - nI p).toNatClampNeg = i := pk_cl i es
    have w3 : (nI i).toNatClampNeg = i := pk_cl i
    have w4 : (nI i + nI p).toNatClampNeg = i + p := pk_cl (i + p) (nI_add i p)
    have eN : i + 1 + p = i + p + 1 := by omega
    by_cases z : a i = a (i + p)
    · have zX : a (nI (i + p)).toNatClampNeg = a (nI (i + p) - nI p).toNatClampNeg := by rw [w1, w2]; exact z.symm
      have zY : a (nI i).toNatClampNeg = a (nI i + nI p).toNatClampNeg := by rw [w3, w4]; exact z
      have H := ih (i + 1) (by omega)
      rw [eN] at H
      rcases H with ⟨hX, hY⟩ | ⟨hX, hY⟩
      · exact Or.inl ⟨fun post hp => br_f cX ⟨i1, i2, br_t zX (nm_r (nI_1 (i + p)) (hX post hp))⟩, fun post hp => br_f cY ⟨i3, i4, br_t zY (nm_r (nI_1 i) (hY post hp))⟩⟩
      · exact Or.inr ⟨fun post hp => br_f cX ⟨i1, i2, br_t zX (nm_r (nI_1 (i + p)) (hX post hp))⟩, fun post hp => br_f cY ⟨i3, i4, br_t zY (nm_r (nI_1 i) (hY post hp))⟩⟩
    · have zX : ¬ a (nI (i + p)).toNatClampNeg = a (nI (i + p) - nI p).toNatClampNeg := by rw [w1, w2]; exact fun e => z e.symm
      have zY : ¬ a (nI i).toNatClampNeg = a (nI i + nI p).toNatClampNeg := by rw [w3, w4]; exact z
      exact Or.inr ⟨fun post hp => br_f cX ⟨i1, i2, br_f zX hp⟩, fun post hp => br_f cY ⟨i3, i4, br_f zY hp⟩⟩
theorem rc_has (L : Int32) (a : Nat → Int32) (i j p : Nat) (h : i + p ≤ j) (hj : j ≤ 32) : ((∀ post : Int32 → Prop, post 1 → wpX_hasPeriod post (L, a) (nI i) (nI j) (nI p)) ∧ (∀ post : Int32 → Prop, post 1 → wpY_hasPeriod post (L, a) (nI i) (nI j) (nI p))) ∨ ((∀ post : Int32 → Prop, post 0 → wpX_hasPeriod post (L, a) (nI i) (nI j) (nI p)) ∧ (∀ post : Int32 → Prop, post 0 → wpY_hasPeriod post (L, a) (nI i) (nI j) (nI p))) := by
  rcases rc_hp L a p j hj (j - (i + p)) i (by omega) with ⟨hX, hY⟩ | ⟨hX, hY⟩
  · exact Or.inl ⟨fun post hp => nm_r (nI_add i p) ⟨_, hX post hp⟩, fun post hp => ⟨_, hY post hp⟩⟩
  · exact Or.inr ⟨fun post hp => nm_r (nI_add i p) ⟨_, hX post hp⟩, fun post hp => ⟨_, hY post hp⟩⟩
theorem rc_lp (L : Int32) (a : Nat → Int32) (i j : Nat) (hi : i ≤ j) (hj : j ≤ 32) : ∀ d p : Nat, j - i ≤ p + d → p ≤ 64 → ∃ r : Int32, (∀ post : Int32 → Prop, post r → wX_leastPeriod_2 post (nI i) (nI j) L a (d + 1) (nI p)) ∧ (∀ post : Int32 → Prop, post r → wY_leastPeriod_2 post (nI i) (nI j) L a (d + 1) (nI p)) := by
  have es : nI j - nI i = nI (j - i) := pk_sub hi
  intro d
  induction d with
  | zero =>
    intro p h hp
    have c : nI j - nI i ≤ nI p := by rw [es]; exact nI_le (by omega) (by omega)
    exact ⟨nI j - nI i, fun post q => br_t c q, fun post q => br_t c q⟩
  | succ d ih =>
    intro p h hp
    by_cases hc : j - i ≤ p
    · have c : nI j - nI i ≤ nI p := by rw [es]; exact nI_le (by omega) (by omega)
      exact ⟨nI j - nI i, fun post q => br_t c q, fun post q => br_t c q⟩
    · have c : ¬ nI j - nI i ≤ nI p := by rw [es]; exact nI_ge (by omega) (by omega)
      rcases rc_has L a i j p (by omega) hj with ⟨hX, hY⟩ | ⟨hX, hY⟩
      · exact ⟨nI p, fun post q => br_f c (hX _ (br_f (by decide) q)), fun post q => br_f c (hY _ (br_f (by decide) q))⟩
      · obtain ⟨r, rX, rY⟩ := ih (p + 1) (by omega) (by omega)
        exact ⟨r, fun post q => br_f c (hX _ (br_t rfl (nm_r (nI_1 p) (rX post q)))), fun post q => br_f c (hY _ (br_t rfl (nm_r (nI_1 p) (rY post q))))⟩
theorem rc_least (L : Int32) (a : Nat → Int32) (i j : Nat) (hi : i ≤ j) (hj : j ≤ 32) : ∃ r : Int32, (∀ post : Int32 → Prop, post r → wpX_leastPeriod post (L, a) (nI i) (nI j)) ∧ (∀ post : Int32 → Prop, post r → wpY_leastPeriod post (L, a) (nI i) (nI j)) := by
  obtain ⟨r, rX, rY⟩ := rc_lp L a i j hi hj 32 1 (by omega) (by omega)
  exact ⟨r, fun post q => ⟨_, rX post q⟩, fun post q => ⟨_, rY post q⟩⟩
theorem i_vc_wholePeriod {k : Nat} {u : SX} {v : SY} (I : i_Rel k u v) (hk : k + 3 ≤ 1536) : wpX_wholePeriod (fun r => wpY_wholePeriod (fun r' => r' = r ∧ i_Rel (k + 3) u v) v) u := by
  obtain ⟨n, a, hn, rfl, rfl⟩ := I
  unfold wpX_wholePeriod wpY_wholePeriod
  dsimp only
  obtain ⟨r, rX, rY⟩ := rc_least (nI n) a 0 n (by omega) hn
  cases n with
  | zero =>
    refine ⟨1, br_t ?_ (br_t rfl ⟨?_, 0, a, hn, rfl, rfl⟩)⟩
    · exact (by decide : (0 : Int32) - 0 ≤ 1)
    · exact (by decide : (0 : Int32) = 0 - 0)
  | succ n =>
    refine rX _ ?_
    refine br_f (nI_ne0 (by omega) (by omega)) ?_
    exact rY _ ⟨rfl, n + 1, a, hn, rfl, rfl⟩
def rd_T (i p n : Nat) (a : Nat → Int32) (post : Int32 → Prop) (x3 : Int32) : Prop := (((x3 - nI i) < (2 * nI p) → (post (-1))) ∧ (¬ (x3 - nI i) < (2 * nI p) → (wpY_leastPeriod (fun r_7 => (((r_7 = nI p → (post x3)) ∧ (¬ r_7 = nI p → (post (-1)))))) (nI n, a) (nI i) x3)))
theorem rd_idle (i p n j : Nat) (a : Nat → Int32) (hn : n ≤ 32) (post : Int32 → Prop) (hT : rd_T i p n a post (nI j)) : ∀ d k : Nat, k + d = n → j < k → wY_runEnd_46 post (nI i) (nI p) (nI n) a (d + 1) (nI j) (nI k) := by
  intro d
  induction d with
  | zero => intro k hk hj; exact br_t (nI_le (by omega) (by omega)) hT
  | succ d ih =>
    intro k hk hj
    have hne : ¬ nI j = nI k := by
      rw [nI_eq (by omega) (by omega)]
      omega
    exact br_f (nI_ge (by omega) (by omega)) (br_f hne (nm_r (nI_1 k) (ih (k + 1) (by omega) (by omega))))
theorem rd_reach (i p n : Nat) (a : Nat → Int32) (hn : n ≤ 32) : ∀ d k : Nat, k + d = n → p ≤ k → ∃ j : Nat, k ≤ j ∧ j ≤ n ∧ (∀ post : Int32 → Prop, post (nI j) → wX_reach_9 post (nI p) (nI n) a (d + 1) (nI k) (nI k)) ∧ (∀ post : Int32 → Prop, rd_T i p n a post (nI j) → wY_runEnd_46 post (nI i) (nI p) (nI n) a (d + 1) (nI k) (nI k)) := by
  intro d
  induction d with
  | zero =>
    intro k hk hp
    exact ⟨k, by omega, by omega, fun post h => br_t (nI_le (by omega) (by omega)) h, fun post h => br_t (nI_le (by omega) (by omega)) h⟩
  | succ d ih =>
    intro k hk hp
    have c : ¬ nI n ≤ nI k := nI_ge (by omega) (by omega)
    have es : nI k - nI p = nI (k - p) := pk_sub hp
    have i1 : vp_in (nI k) 32 := pk_in k 32 (by omega)
    have i2 : vp_in (nI k - nI p) 32 := pk_in (k - p) 32 (by omega) es
    by_cases z : a (nI k).toNatClampNeg = a (nI k - nI p).toNatClampNeg
    · obtain ⟨j, h1, h2, hX, hY⟩ := ih (k + 1) (by omega) (by omega)
      exact ⟨j, by omega, h2, fun post h => br_f c ⟨i1, i2, br_t z (nm_r (nI_1 k) (nm_r (nI_1 k) (hX post h)))⟩, fun post h => br_f c (br_t rfl ⟨i1, i2, br_t z (nm_r (nI_1 k) (nm_r (nI_1 k) (hY post h)))⟩)⟩
    · exact ⟨k, by omega, by omega, fun post h => br_f c ⟨i1, i2, br_f z h⟩, fun post h => br_f c (br_t rfl ⟨i1, i2, br_f z (nm_r (nI_1 k) (rd_idle i p n k a hn post h d (k + 1) (by omega) (by omega)))⟩)⟩
theorem rd_core (i p n : Nat) (a : Nat → Int32) (hn : n ≤ 32) (h : i + p ≤ n) : ((∀ post : Int32 → Prop, post 0 → wX_isRun_27 post (nI i) (nI p) (nI n) a) ∧ (∀ post : Int32 → Prop, post (-1) → wY_runEnd_37 post (nI i) (nI p) (nI n) a)) ∨ (∃ j : Nat, i + 2 * p ≤ j ∧ j ≤ n ∧ (∀ post : Int32 → Prop, post 1 → wX_isRun_27 post (nI i) (nI p) (nI n) a) ∧ (∀ post : Int32 → Prop, post (nI j) → wpX_reach post (nI n, a) (nI i) (nI p)) ∧ (∀ post : Int32 → Prop, post (nI j) → wY_runEnd_37 post (nI i) (nI p) (nI n) a)) := by
  obtain ⟨j, h1, h2, hX, hY⟩ := rd_reach i p n a hn (n - (i + p)) (i + p) (by omega) (by omega)
  have hR : ∀ post : Int32 → Prop, post (nI j) → wpX_reach post (nI n, a) (nI i) (nI p) := fun post hp => nm_r (nI_add i p) (nm_r (nI_add i p) ⟨_, hX post hp⟩)
  have hE : ∀ post : Int32 → Prop, rd_T i p n a post (nI j) → wY_runEnd_37 post (nI i) (nI p) (nI n) a := fun post hp => nm_r (nI_add i p) (nm_r (nI_add i p) ⟨_, hY post hp⟩)
  have e1 : nI j - nI i = nI (j - i) := pk_sub (by omega)
  have e2 : (2 : Int32) * nI p = nI (2 * p) := by rw [← ra_2]; exact pk_mul 2 p
  by_cases hs : j - i < 2 * p
  · have c : nI j - nI i < 2 * nI p := by rw [e1, e2]; exact nI_lt hs (by omega)
    refine Or.inl ⟨fun post hp => ?_, fun post hp => hE post (br_t c hp)⟩
    unfold wX_isRun_27
    exact hR _ (br_t c hp)
  · have c : ¬ nI j - nI i < 2 * nI p := by rw [e1, e2]; exact nI_nlt (by omega) (by omega)
    obtain ⟨r, rX, rY⟩ := rc_least (nI n) a i j (by omega) (by omega)
    by_cases hr : r = nI p
    · refine Or.inr ⟨j, by omega, h2, fun post hp => ?_, hR, fun post hp => hE post (br_f c (rY _ (br_t hr hp)))⟩
      unfold wX_isRun_27
      exact hR _ (br_f c (rX _ (br_t hr hp)))
    · refine Or.inl ⟨fun post hp => ?_, fun post hp => hE post (br_f c (rY _ (br_f hr hp)))⟩
      unfold wX_isRun_27
      exact hR _ (br_f c (rX _ (br_f hr hp)))
theorem rd_run (i p n : Nat) (a : Nat → Int32) (hn : n ≤ 32) (h : i + p < n) : ((∀ post : Int32 → Prop, post 0 → wpX_isRun post (nI n, a) (nI i) (nI p)) ∧ (∀ post : Int32 → Prop, post (-1) → wpY_runEnd post (nI n, a) (nI i) (nI p))) ∨ (∃ j : Nat, i + 2 * p ≤ j ∧ j ≤ n ∧ (∀ post : Int32 → Prop, post 1 → wpX_isRun post (nI n, a) (nI i) (nI p)) ∧ (∀ post : Int32 → Prop, post (nI j) → wpX_reach post (nI n, a) (nI i) (nI p)) ∧ (∀ post : Int32 → Prop, post (nI j) → wpY_runEnd post (nI n, a) (nI i) (nI p))) := by
  have c : ¬ nI n ≤ nI i + nI p := by rw [nI_add]; exact nI_ge (by omega) (by omega)
  cases i with
  | zero =>
    have h0 : nI 0 ≤ 0 := by decide
    rcases rd_core 0 p n a hn (by omega) with ⟨hX, hY⟩ | ⟨j, j1, j2, hX, hR, hY⟩
    · exact Or.inl ⟨fun post hp => br_t h0 (hX post hp), fun post hp => br_f c (br_t h0 (hY post hp))⟩
    · exact Or.inr ⟨j, j1, j2, fun post hp => br_t h0 (hX post hp), hR, fun post hp => br_f c (br_t h0 (hY post hp))⟩
  | succ i =>
    have h0 : ¬ nI (i + 1) ≤ 0 := nI_nle (by omega) (by omega)
    have i1 : vp_in (nI (i + 1) - 1) 32 := pk_in i 32 (by omega) (nI_pred i)
    have i2 : vp_in ((nI (i + 1) - 1) + nI p) 32 := pk_in (i + p) 32 (by omega) (by rw [nI_pred, nI_add])
    by_cases z : a (nI (i + 1) - 1).toNatClampNeg = a ((nI (i + 1) - 1) + nI p).toNatClampNeg
    · exact Or.inl ⟨fun post hp => br_f h0 ⟨i1, i2, br_t z hp⟩, fun post hp => br_f c (br_f h0 ⟨i1, i2, br_t z hp⟩)⟩
    · rcases rd_core (i + 1) p n a hn (by omega) with ⟨hX, hY⟩ | ⟨j, j1, j2, hX, hR, hY⟩
      · exact Or.inl ⟨fun post hp => br_f h0 ⟨i1, i2, br_f z (hX post hp)⟩, fun post hp => br_f c (br_f h0 ⟨i1, i2, br_f z (hY post hp)⟩)⟩
      · exact Or.inr ⟨j, j1, j2, fun post hp => br_f h0 ⟨i1, i2, br_f z (hX post hp)⟩, hR, fun post hp => br_f c (br_f h0 ⟨i1, i2, br_f z (hY post hp)⟩)⟩
theorem rd_none (i p n : Nat) (a : Nat → Int32) (hn : n ≤ 32) (hi : i < n) (hp : p ≤ 16) (h : n < i + 2 * p) : ∀ post : Int32 → Prop, post (-1) → wpY_runEnd post (nI n, a) (nI i) (nI p) := by
  intro post q
  by_cases hc : n ≤ i + p
  · have c : nI n ≤ nI i + nI p := by rw [nI_add]; exact nI_le (by omega) (by omega)
    exact br_t c q
  · rcases rd_run i p n a hn (by omega) with ⟨_, hY⟩ | ⟨j, j1, j2, _⟩
    · exact hY post q
    · exact absurd j1 (by omega)
end
