/-! the component's reading methods against the pictures -/
theorem tq_bx {x : Int32} {b : Bool} {A B : Prop} (hx : x = tq_01 b) (f : b = false → A) (t : b = true → B) : (x = 0 → A) ∧ (¬ x = 0 → B) := by
  subst hx
  exact tq_br f t
theorem tq_rep (v : Int32) : (∃ r, r < 3 ∧ v = nI r) ∨ ((∀ post : Int32 → Prop, post 0 → wpX_isReplica post v) ∧ (∀ post : Int32 → Prop, post 1 → wpY_bad post v)) := by
  rcases pk_ix v (n := 3) (by omega) with h | h | h
  · exact Or.inr ⟨fun _ p => br_t h p, fun _ p => br_t h p⟩
  · have h0 : ¬ v < 0 := fun z => by
      have a := Int32.lt_of_le_of_lt h z
      exact absurd a (nI_pos (by omega))
    have h2 : ¬ v ≤ 2 := fun z => by
      have a := Int32.le_trans h z
      exact absurd a (by decide)
    exact Or.inr ⟨fun _ p => br_f h0 (br_t h p), fun _ p => br_f h0 (br_f h2 p)⟩
  · exact Or.inl h
theorem tq_repX {r : Nat} (hr : r < 3) {post : Int32 → Prop} (h : post 1) : wpX_isReplica post (nI r) :=
  br_f (nI_pos (by omega)) (br_f (nI_ge (b := 3) hr (by omega)) h)
theorem tq_repY {r : Nat} (hr : r < 3) {post : Int32 → Prop} (h : post 0) : wpY_bad post (nI r) :=
  br_f (nI_pos (by omega)) (br_t (nI_le (b := 2) (by omega) (by omega)) h)
def tq_XA (M N : Nat) (og bs st kc ln : Nat → Nat) (dl : Nat → Bool) (lt : Nat → Int32) (xo xn xd xb xl xs xL xk : Nat → Int32) : Prop :=
  (∀ c, c < M → xo c = nI (og (c + 1)) ∧ xn c = nI (tq_nu og (c + 1)) ∧ xd c = tq_01 (dl (c + 1)) ∧ xb c = tq_b (bs (c + 1))) ∧
  (∀ c, c < M → dl (c + 1) = false → xl c = lt (c + 1) ∧ xs c = nI (st (c + 1))) ∧
  (∀ i, i < N → xL i = nI (ln (i + 1) - 1)) ∧
  (∀ j, j < 9 → xk j = nI (kc j))
/-- the greatest stamp that a replica knows -/
def tq_Mx (M : Nat) (st : Nat → Nat) (dl : Nat → Bool) (K : Nat → Bool) (m : Nat) : Prop :=
  (∀ e, 1 ≤ e → e ≤ M → dl e = false → K e = true → st e ≤ m) ∧ (m = 0 ∨ ∃ e, 1 ≤ e ∧ e ≤ M ∧ dl e = false ∧ K e = true ∧ st e = m)
theorem tq_Mxu {M : Nat} {st : Nat → Nat} {dl K : Nat → Bool} {m m' : Nat} (h : tq_Mx M st dl K m) (h' : tq_Mx M st dl K m') : m = m' := by
  have a : m ≤ m' := by
    rcases h.2 with z | ⟨e, e1, e2, e3, e4, e5⟩
    · omega
    · have := h'.1 e e1 e2 e3 e4
      omega
  have b : m' ≤ m := by
    rcases h'.2 with z | ⟨e, e1, e2, e3, e4, e5⟩
    · omega
    · have := h.1 e e1 e2 e3 e4
      omega
  omega
section
variable {M N : Nat} {og bs st kc ln : Nat → Nat} {dl : Nat → Bool} {lt : Nat → Int32} {xo xn xd xb xl xs xL xk : Nat → Int32}
theorem tq_kcb (I : tq_PI M N og bs st kc ln dl) {r o : Nat} (hr : r < 3) (ho : o < 3) : kc (r * 3 + o) ≤ M :=
  Nat.le_trans (I.2.2.2.1 r o hr ho) (tq_cle _ M)
theorem tq_nub (og : Nat → Nat) (e : Nat) : tq_nu og e ≤ e := tq_cle _ e
theorem tq_xknows (I : tq_PI M N og bs st kc ln dl) (X : tq_XA M N og bs st kc ln dl lt xo xn xd xb xl xs xL xk) {r e : Nat} {x : Int32} (hr : r < 3) (h1 : 1 ≤ e) (hM : e ≤ M) (hx : x = nI (e - 1))
    {post : Int32 → Prop} (hp : post (tq_01 (tq_kn og kc r e))) : wpX_knows post (nI M, nI N, xo, xn, xd, xb, xl, xs, xL, xk) (nI r) x := by
  subst hx
  obtain ⟨c, rfl⟩ : ∃ c, e = c + 1 := ⟨e - 1, by omega⟩
  rw [Nat.add_sub_cancel]
  have h48 := I.1.1
  have hog := (I.2.1 (c + 1) h1 hM).1
  have hX := X.1 c (by omega)
  have ec : (nI c).toNatClampNeg = c := nI_clamp (by omega)
  have eo : nI r * 3 + xo (nI c).toNatClampNeg = nI (r * 3 + og (c + 1)) := by rw [ec, hX.1, tq_r3]
  have hin : vp_in (nI c) 48 := vp_in_nI (by omega) (by omega)
  have hk := tq_kcb I hr hog
  have hn := tq_nub og (c + 1)
  refine ⟨hin, hin, ?_, ?_⟩
  · rw [eo]
    exact vp_in_nI (by omega) (by omega)
  · refine pk_lt (kc (r * 3 + og (c + 1))) (tq_nu og (c + 1)) (fun z => ?_) (fun z => ?_) ?_ ?_ (by omega) (by omega)
    · have : tq_kn og kc r (c + 1) = false := decide_eq_false (by omega)
      rw [this] at hp
      exact hp
    · have : tq_kn og kc r (c + 1) = true := decide_eq_true z
      rw [this] at hp
      exact hp
    · rw [eo, nI_clamp (by omega)]
      exact X.2.2.2 _ (by omega)
    · rw [ec]
      exact hX.2.1
theorem tq_xtk0 (I : tq_PI M N og bs st kc ln dl) (X : tq_XA M N og bs st kc ln dl lt xo xn xd xb xl xs xL xk) {r e : Nat} {x : Int32} (hr : r < 3) (he : e ≤ M) (hx : x = tq_b e)
    {post : Int32 → Prop} (hp : post (tq_01 (tq_tk M og bs kc dl r e))) : ∀ k c, c + k = M → tq_c (tq_D og bs kc dl r e) c = 0 → wX_isTakenAway_2 post (nI r) x (nI M) (nI N) xo xn xd xb xl xs xL xk (k + 1) (nI c) := by
  have h48 := I.1.1
  intro k
  induction k with
  | zero =>
    intro c hc h0
    refine br_t (nI_le (by omega) (by omega)) ?_
    have : tq_tk M og bs kc dl r e = false := decide_eq_false (by rw [show M = c by omega, h0]; omega)
    rw [this] at hp
    exact hp
  | succ k ih =>
    intro c hc h0
    have ec : (nI c).toNatClampNeg = c := nI_clamp (by omega)
    have hin : vp_in (nI c) 48 := vp_in_nI (by omega) (by omega)
    have hX := X.1 c (by omega)
    have hb := (I.2.1 (c + 1) (by omega) (by omega)).2.1
    have step : tq_D og bs kc dl r e (c + 1) = false → ∀ y : Int32, y = nI c + 1 → wX_isTakenAway_2 post (nI r) x (nI M) (nI N) xo xn xd xb xl xs xL xk (k + 1) y := fun hd y ey => by
      rw [ey, nI_1]
      exact ih (c + 1) (by omega) (by rw [tq_cF hd]; exact h0)
    refine br_f (nI_ge (by omega) (by omega)) ⟨hin, tq_bx (by rw [ec]; exact hX.2.2.1) (fun d0 => step (by simp [tq_D, d0])) (fun d1 => ⟨hin, ?_⟩)⟩
    refine tq_be (d := bs (c + 1)) (e := e) (by omega) (by omega) (by rw [ec]; exact hX.2.2.2) hx (fun be => ?_) (fun be => step (by simp [tq_D, be]))
    refine tq_xknows I X (e := c + 1) hr (by omega) (by omega) rfl ?_
    refine tq_br (fun k0 => step (by simp [tq_D, k0])) (fun k1 => ?_)
    have : tq_tk M og bs kc dl r e = true := decide_eq_true (by
      have := tq_cpos (P := tq_D og bs kc dl r e) (e := c + 1) (n := M) (by omega) (by omega) (by simp [tq_D, d1, be, k1])
      omega)
    rw [this] at hp
    exact hp
theorem tq_xshows (I : tq_PI M N og bs st kc ln dl) (X : tq_XA M N og bs st kc ln dl lt xo xn xd xb xl xs xL xk) {r e : Nat} {x : Int32} (hr : r < 3) (h1 : 1 ≤ e) (hM : e ≤ M) (hx : x = nI (e - 1))
    {post : Int32 → Prop} (hp : post (tq_01 (tq_se M og bs kc dl r e))) : wpX_shows post (nI M, nI N, xo, xn, xd, xb, xl, xs, xL, xk) (nI r) x := by
  unfold wpX_shows
  refine tq_xknows I X hr h1 hM hx ?_
  refine tq_br (fun k0 => ?_) (fun k1 => ?_)
  · rw [show tq_se M og bs kc dl r e = false by simp [tq_se, k0]] at hp
    exact hp
  · refine ⟨M + 1, tq_xtk0 I X hr hM (hx.trans (tq_bp h1).symm) ?_ M 0 (by omega) rfl⟩
    refine tq_br (fun k0 => ?_) (fun k2 => ?_)
    · rw [show tq_se M og bs kc dl r e = true by simp [tq_se, k0, k1]] at hp
      exact hp
    · rw [show tq_se M og bs kc dl r e = false by simp [tq_se, k2]] at hp
      exact hp
theorem tq_xline (I : tq_PI M N og bs st kc ln dl) (X : tq_XA M N og bs st kc ln dl lt xo xn xd xb xl xs xL xk) {i : Nat} (hi : i < N) : xL (nI i).toNatClampNeg = nI (ln (i + 1) - 1) := by
  have := tq_pN I
  have := I.1.1
  rw [nI_clamp (by omega)]
  exact X.2.2.1 i hi
theorem tq_xlen0 (I : tq_PI M N og bs st kc ln dl) (X : tq_XA M N og bs st kc ln dl lt xo xn xd xb xl xs xL xk) {r : Nat} (hr : r < 3)
    {post : Int32 → Prop} (hp : post (nI (tq_c (tq_S M og bs kc ln dl r) N))) : ∀ k i, i + k = N → wX_textLength_4 post (nI r) (nI M) (nI N) xo xn xd xb xl xs xL xk (k + 1) (nI (tq_c (tq_S M og bs kc ln dl r) i)) (nI i) := by
  have h48 := I.1.1
  have hN := tq_pN I
  intro k
  induction k with
  | zero =>
    intro i hi
    refine br_t (nI_le (by omega) (by omega)) ?_
    rw [show i = N by omega]
    exact hp
  | succ k ih =>
    intro i hi
    have hl := I.2.2.2.2.2.2.1 (i + 1) (by omega) (by omega)
    refine br_f (nI_ge (by omega) (by omega)) ⟨vp_in_nI (by omega) (by omega), tq_xshows I X hr hl.1 hl.2.1 (tq_xline I X (by omega)) (tq_br (fun s0 => ?_) (fun s1 => ?_))⟩
    · intro y ey
      rw [ey, nI_1]
      have := ih (i + 1) (by omega)
      rw [tq_cF (P := tq_S M og bs kc ln dl r) s0] at this
      exact this
    · intro z ez y ey
      rw [ey, ez, nI_1, nI_1]
      have := ih (i + 1) (by omega)
      rw [tq_cT (P := tq_S M og bs kc ln dl r) s1] at this
      exact this
theorem tq_xlen (I : tq_PI M N og bs st kc ln dl) (X : tq_XA M N og bs st kc ln dl lt xo xn xd xb xl xs xL xk) {r : Nat} (hr : r < 3)
    {post : Int32 → Prop} (hp : post (nI (tq_c (tq_S M og bs kc ln dl r) N))) : wpX_textLength post (nI M, nI N, xo, xn, xd, xb, xl, xs, xL, xk) (nI r) :=
  ⟨N + 1, tq_xlen0 I X hr hp N 0 (by omega)⟩
theorem tq_xsi0 (I : tq_PI M N og bs st kc ln dl) (X : tq_XA M N og bs st kc ln dl lt xo xn xd xb xl xs xL xk) {r p : Nat} (hr : r < 3) (hp1 : 1 ≤ p) (hpN : p ≤ N) (hs : tq_S M og bs kc ln dl r p = true)
    {post : Int32 → Prop} (hp : post (nI (ln p - 1))) : ∀ k i, i + k = N → i < p → wX_shownInsert_5 post (nI r) (nI (tq_c (tq_S M og bs kc ln dl r) (p - 1))) (nI M) (nI N) xo xn xd xb xl xs xL xk (k + 1) (nI (tq_c (tq_S M og bs kc ln dl r) i)) (nI i) := by
  have h48 := I.1.1
  have hN := tq_pN I
  intro k
  induction k with
  | zero =>
    intro i hi h
    omega
  | succ k ih =>
    intro i hi h
    have hl := I.2.2.2.2.2.2.1 (i + 1) (by omega) (by omega)
    have hin : vp_in (nI i) 48 := vp_in_nI (by omega) (by omega)
    have b1 := tq_cle (tq_S M og bs kc ln dl r) i
    have b2 := tq_cle (tq_S M og bs kc ln dl r) (p - 1)
    refine br_f (nI_ge (by omega) (by omega)) ⟨hin, tq_xshows I X hr hl.1 hl.2.1 (tq_xline I X (by omega)) (tq_br (fun s0 => ?_) (fun s1 => ?_))⟩
    · intro y ey
      have s0' : tq_S M og bs kc ln dl r (i + 1) = false := s0
      have hne : i + 1 ≠ p := fun z => by
        rw [z, hs] at s0'
        exact Bool.noConfusion s0'
      rw [ey, nI_1]
      have := ih (i + 1) (by omega) (by omega)
      rw [tq_cF s0'] at this
      exact this
    · have s1' : tq_S M og bs kc ln dl r (i + 1) = true := s1
      refine pk_eq (tq_c (tq_S M og bs kc ln dl r) i) (tq_c (tq_S M og bs kc ln dl r) (p - 1)) (fun z => ?_) (fun z => ?_) rfl rfl (by omega) (by omega)
      · have e : i + 1 = p := by
          by_cases w : i + 1 = p
          · exact w
          · have := tq_cpos (P := tq_S M og bs kc ln dl r) (e := i + 1) (n := p - 1) (by omega) (by omega) s1'
            rw [Nat.add_sub_cancel] at this
            omega
        refine ⟨hin, ?_⟩
        rw [tq_xline I X (by omega), e]
        exact hp
      · have hne : i + 1 ≠ p := fun w => z (by rw [← w, Nat.add_sub_cancel])
        intro w ew y ey
        rw [ey, ew, nI_1, nI_1]
        have := ih (i + 1) (by omega) (by omega)
        rw [tq_cT s1'] at this
        exact this
theorem tq_xsi (I : tq_PI M N og bs st kc ln dl) (X : tq_XA M N og bs st kc ln dl lt xo xn xd xb xl xs xL xk) {r p : Nat} (hr : r < 3) (hp1 : 1 ≤ p) (hpN : p ≤ N) (hs : tq_S M og bs kc ln dl r p = true)
    {x : Int32} (hx : x = nI (tq_c (tq_S M og bs kc ln dl r) (p - 1))) {post : Int32 → Prop} (hp : post (nI (ln p - 1))) : wpX_shownInsert post (nI M, nI N, xo, xn, xd, xb, xl, xs, xL, xk) (nI r) x := by
  subst hx
  exact ⟨N + 1, tq_xsi0 I X hr hp1 hpN hs hp N 0 (by omega) (by omega)⟩
theorem tq_xsn0 (I : tq_PI M N og bs st kc ln dl) (X : tq_XA M N og bs st kc ln dl lt xo xn xd xb xl xs xL xk) {r : Nat} (hr : r < 3) {x : Int32} (hx : ∀ j, j < tq_c (tq_S M og bs kc ln dl r) N → ¬ nI j = x)
    {post : Int32 → Prop} (hp : post (-1)) : ∀ k i, i + k = N → wX_shownInsert_5 post (nI r) x (nI M) (nI N) xo xn xd xb xl xs xL xk (k + 1) (nI (tq_c (tq_S M og bs kc ln dl r) i)) (nI i) := by
  have h48 := I.1.1
  have hN := tq_pN I
  intro k
  induction k with
  | zero =>
    intro i hi
    exact br_t (nI_le (by omega) (by omega)) hp
  | succ k ih =>
    intro i hi
    have hl := I.2.2.2.2.2.2.1 (i + 1) (by omega) (by omega)
    have hin : vp_in (nI i) 48 := vp_in_nI (by omega) (by omega)
    refine br_f (nI_ge (by omega) (by omega)) ⟨hin, tq_xshows I X hr hl.1 hl.2.1 (tq_xline I X (by omega)) (tq_br (fun s0 => ?_) (fun s1 => ?_))⟩
    · intro y ey
      rw [ey, nI_1]
      have := ih (i + 1) (by omega)
      rw [tq_cF (P := tq_S M og bs kc ln dl r) s0] at this
      exact this
    · have s1' : tq_S M og bs kc ln dl r (i + 1) = true := s1
      refine br_f (hx _ ?_) ?_
      · have := tq_cpos (P := tq_S M og bs kc ln dl r) (e := i + 1) (n := N) (by omega) (by omega) s1'
        rw [Nat.add_sub_cancel] at this
        omega
      · intro w ew y ey
        rw [ey, ew, nI_1, nI_1]
        have := ih (i + 1) (by omega)
        rw [tq_cT s1'] at this
        exact this
theorem tq_xsn (I : tq_PI M N og bs st kc ln dl) (X : tq_XA M N og bs st kc ln dl lt xo xn xd xb xl xs xL xk) {r : Nat} (hr : r < 3) {x : Int32} (hx : ∀ j, j < tq_c (tq_S M og bs kc ln dl r) N → ¬ nI j = x)
    {post : Int32 → Prop} (hp : post (-1)) : wpX_shownInsert post (nI M, nI N, xo, xn, xd, xb, xl, xs, xL, xk) (nI r) x :=
  ⟨N + 1, tq_xsn0 I X hr hx hp N 0 (by omega)⟩
theorem tq_xrow0 (I : tq_PI M N og bs st kc ln dl) (X : tq_XA M N og bs st kc ln dl lt xo xn xd xb xl xs xL xk) {r : Nat} (hr : r < 3)
    {post : Int32 → Prop} (hp : post (nI (tq_c (fun i => tq_kn og kc r (ln i)) N))) : ∀ k i, i + k = N → wX_row_13 post (nI r) (nI M) (nI N) xo xn xd xb xl xs xL xk (k + 1) (nI (tq_c (fun i => tq_kn og kc r (ln i)) i)) (nI i) := by
  have h48 := I.1.1
  have hN := tq_pN I
  intro k
  induction k with
  | zero =>
    intro i hi
    refine br_t (nI_le (by omega) (by omega)) ?_
    rw [show i = N by omega]
    exact hp
  | succ k ih =>
    intro i hi
    have hl := I.2.2.2.2.2.2.1 (i + 1) (by omega) (by omega)
    refine br_f (nI_ge (by omega) (by omega)) ⟨vp_in_nI (by omega) (by omega), tq_xknows I X hr hl.1 hl.2.1 (tq_xline I X (by omega)) (tq_br (fun s0 => ?_) (fun s1 => ?_))⟩
    · intro y ey
      rw [ey, nI_1]
      have := ih (i + 1) (by omega)
      rw [tq_cF (P := fun i => tq_kn og kc r (ln i)) s0] at this
      exact this
    · intro z ez y ey
      rw [ey, ez, nI_1, nI_1]
      have := ih (i + 1) (by omega)
      rw [tq_cT (P := fun i => tq_kn og kc r (ln i)) s1] at this
      exact this
theorem tq_xst0 (I : tq_PI M N og bs st kc ln dl) (X : tq_XA M N og bs st kc ln dl lt xo xn xd xb xl xs xL xk) {r : Nat} (hr : r < 3)
    {post : Int32 → Prop} (hp : ∀ m, tq_Mx M st dl (tq_kn og kc r) m → post (nI (m + 1))) : ∀ k i m, i + k = N → (∀ j, 1 ≤ j → j ≤ i → tq_kn og kc r (ln j) = true → st (ln j) ≤ m) →
    (m = 0 ∨ ∃ e, 1 ≤ e ∧ e ≤ M ∧ dl e = false ∧ tq_kn og kc r e = true ∧ st e = m) → wX_nextStamp_4 post (nI r) (nI M) (nI N) xo xn xd xb xl xs xL xk (k + 1) (nI m) (nI i) := by
  have h48 := I.1.1
  have hN := tq_pN I
  intro k
  induction k with
  | zero =>
    intro i m hi ha hb
    refine br_t (nI_le (by omega) (by omega)) ?_
    rw [nI_1]
    refine hp m ⟨fun e e1 e2 e3 e4 => ?_, hb⟩
    obtain ⟨j, j1, j2, rfl⟩ := tq_pos I e1 e2 e3
    exact ha j j1 (by omega) e4
  | succ k ih =>
    intro i m hi ha hb
    have hm : m ≤ 48 := by
      rcases hb with z | ⟨e, e1, e2, e3, e4, e5⟩
      · omega
      · have := (I.2.1 e e1 e2).2.2.2
        omega
    have hl := I.2.2.2.2.2.2.1 (i + 1) (by omega) (by omega)
    have hst := (I.2.1 _ hl.1 hl.2.1).2.2.2
    refine br_f (nI_ge (by omega) (by omega)) ⟨vp_in_nI (by omega) (by omega), fun y ey => ?_⟩
    have hy : y = nI (ln (i + 1) - 1) := ey.trans (tq_xline I X (by omega))
    have hyin : vp_in y 48 := by rw [hy]; exact vp_in_nI (by omega) (by omega)
    have hys : xs y.toNatClampNeg = nI (st (ln (i + 1))) := by
      rw [hy, nI_clamp (by omega)]
      have := (X.2.1 (ln (i + 1) - 1) (by omega) (by rw [Nat.sub_add_cancel hl.1]; exact hl.2.2)).2
      rw [Nat.sub_add_cancel hl.1] at this
      exact this
    refine tq_xknows I X hr hl.1 hl.2.1 hy (tq_br (fun s0 => ?_) (fun s1 => ⟨hyin, ?_⟩))
    · intro z ez
      rw [ez, nI_1]
      refine ih (i + 1) m (by omega) (fun j j1 j2 j3 => ?_) hb
      by_cases w : j = i + 1
      · rw [w, s0] at j3
        exact Bool.noConfusion j3
      · exact ha j j1 (by omega) j3
    · refine pk_le (st (ln (i + 1))) m (fun c => ?_) (fun c => ⟨hyin, ?_⟩) hys rfl (by omega) (by omega)
      · intro z ez
        rw [ez, nI_1]
        refine ih (i + 1) m (by omega) (fun j j1 j2 j3 => ?_) hb
        by_cases w : j = i + 1
        · rw [w]
          exact c
        · exact ha j j1 (by omega) j3
      · intro w ew z ez
        rw [ez, ew, nI_1, hys]
        refine ih (i + 1) (st (ln (i + 1))) (by omega) (fun j j1 j2 j3 => ?_) (Or.inr ⟨_, hl.1, hl.2.1, hl.2.2, s1, rfl⟩)
        by_cases w : j = i + 1
        · rw [w]
          exact Nat.le_refl _
        · have := ha j j1 (by omega) j3
          omega
theorem tq_xst (I : tq_PI M N og bs st kc ln dl) (X : tq_XA M N og bs st kc ln dl lt xo xn xd xb xl xs xL xk) {r : Nat} (hr : r < 3)
    {post : Int32 → Prop} (hp : ∀ m, tq_Mx M st dl (tq_kn og kc r) m → post (nI (m + 1))) : wpX_nextStamp post (nI M, nI N, xo, xn, xd, xb, xl, xs, xL, xk) (nI r) :=
  ⟨N + 1, tq_xst0 I X hr hp N 0 0 (by omega) (fun j j1 j2 => by omega) (Or.inl rfl)⟩
end
