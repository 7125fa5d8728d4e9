/-! the relation, and the calls that change nothing -/
def i_Rel (_ : Nat) (u : SX) (v : SY) : Prop :=
  ∃ (M N : Nat) (og bs st kc ln : Nat → Nat) (dl : Nat → Bool) (lt : Nat → Int32) (xo xn xd xb xl xs xL xk : Nat → Int32) (fs : Int32) (yo yi yl yt ys yk yx : Nat → Int32),
    tq_PI M N og bs st kc ln dl ∧ tq_XA M N og bs st kc ln dl lt xo xn xd xb xl xs xL xk ∧ tq_YA M og bs st kc dl lt yo yi yl yt ys yk ∧
    u = (nI M, nI N, xo, xn, xd, xb, xl, xs, xL, xk) ∧ v = (nI M, fs, yo, yi, yl, yt, ys, yk, yx)
theorem i_up {k : Nat} {u : SX} {v : SY} (h : i_Rel k u v) : i_Rel (k + 4) u v := h
theorem i_vc0 : wpX_init (fun u => wpY_init (fun v => i_Rel 0 u v)) := by
  refine ⟨0, 0, fun _ => 0, fun _ => 0, fun _ => 0, fun _ => 0, fun _ => 0, fun _ => false, fun _ => 0, fun _ => 0, fun _ => 0, fun _ => 0, fun _ => 0, fun _ => 0, fun _ => 0, fun _ => 0, fun _ => 0, 0, fun _ => 0, fun _ => 0, fun _ => 0, fun _ => 0, fun _ => 0, fun _ => 0, fun _ => 0, ?_, ?_, ?_, rfl, rfl⟩
  · refine ⟨⟨by omega, rfl, rfl, rfl⟩, fun e a b => by omega, fun e r a b => by omega, fun r o _ _ => Nat.zero_le _, fun o _ => rfl, fun e d a b => by omega, fun i a b => by omega, fun i a b => by omega, fun P => rfl⟩
  · exact ⟨fun c h => by omega, fun c h => by omega, fun i h => by omega, fun j _ => rfl⟩
  · refine ⟨fun c h => by omega, fun c h => by omega, fun r c _ _ => ?_⟩
    rw [show decide (c < 0) = false from decide_eq_false (by omega)]
    rfl
section
variable {M N : Nat} {og bs st kc ln : Nat → Nat} {dl : Nat → Bool} {lt : Nat → Int32} {xo xn xd xb xl xs xL xk : Nat → Int32} {fs : Int32} {yo yi yl yt ys yk yx : Nat → Int32}
theorem tq_mk (k : Nat) (I : tq_PI M N og bs st kc ln dl) (X : tq_XA M N og bs st kc ln dl lt xo xn xd xb xl xs xL xk) (Y : tq_YA M og bs st kc dl lt yo yi yl yt ys yk) (fs : Int32) (yx : Nat → Int32) :
    i_Rel k (nI M, nI N, xo, xn, xd, xb, xl, xs, xL, xk) (nI M, fs, yo, yi, yl, yt, ys, yk, yx) :=
  ⟨M, N, og, bs, st, kc, ln, dl, lt, xo, xn, xd, xb, xl, xs, xL, xk, fs, yo, yi, yl, yt, ys, yk, yx, I, X, Y, rfl, rfl⟩
theorem tq_10 : ¬ (1 : Int32) = 0 := by decide
theorem tq_ylen (I : tq_PI M N og bs st kc ln dl) (Y : tq_YA M og bs st kc dl lt yo yi yl yt ys yk) {r : Nat} (hr : r < 3) {post : Int32 → SY → Prop}
    (hp : ∀ fs' yx', post (nI (tq_c (tq_S M og bs kc ln dl r) N)) (nI M, fs', yo, yi, yl, yt, ys, yk, yx')) : wpY_length post (nI M, fs, yo, yi, yl, yt, ys, yk, yx) (nI r) := by
  unfold wpY_length
  exact tq_repY hr (br_t rfl (tq_ylay I Y hr (fun yx' _ => hp _ yx')))
theorem tq_kcount (I : tq_PI M N og bs st kc ln dl) {r o : Nat} (hr : r < 3) (ho : o < 3) : tq_c (fun e => tq_kn og kc r e && decide (og e = o)) M = kc (r * 3 + o) := by
  have a : ∀ n k, (k ≤ tq_c (tq_o og o) n → tq_c (fun e => decide (tq_c (tq_o og o) e ≤ k) && decide (og e = o)) n = k) ∧ (tq_c (tq_o og o) n ≤ k → tq_c (fun e => decide (tq_c (tq_o og o) e ≤ k) && decide (og e = o)) n = tq_c (tq_o og o) n) := by
    intro n k
    induction n with
    | zero => exact ⟨fun h => (Nat.le_zero.mp h).symm, fun _ => rfl⟩
    | succ n ih =>
      by_cases c : og (n + 1) = o
      · have t : tq_c (tq_o og o) (n + 1) = tq_c (tq_o og o) n + 1 := tq_cT (decide_eq_true c)
        by_cases z : tq_c (tq_o og o) (n + 1) ≤ k
        · have s : tq_c (fun e => decide (tq_c (tq_o og o) e ≤ k) && decide (og e = o)) (n + 1) = tq_c (fun e => decide (tq_c (tq_o og o) e ≤ k) && decide (og e = o)) n + 1 := tq_cT (by simp [z, c])
          have := ih.2 (by omega)
          omega
        · have s : tq_c (fun e => decide (tq_c (tq_o og o) e ≤ k) && decide (og e = o)) (n + 1) = tq_c (fun e => decide (tq_c (tq_o og o) e ≤ k) && decide (og e = o)) n := tq_cF (by simp [z])
          have := ih.1 (by omega)
          omega
      · have t : tq_c (tq_o og o) (n + 1) = tq_c (tq_o og o) n := tq_cF (decide_eq_false c)
        have s : tq_c (fun e => decide (tq_c (tq_o og o) e ≤ k) && decide (og e = o)) (n + 1) = tq_c (fun e => decide (tq_c (tq_o og o) e ≤ k) && decide (og e = o)) n := tq_cF (by simp [c])
        rw [t, s]
        exact ih
  rw [← (a M (kc (r * 3 + o))).1 (I.2.2.2.1 r o hr ho)]
  refine tq_ccong M (fun e _ _ => ?_)
  by_cases c : og e = o
  · subst c
    rfl
  · simp [c]
theorem tq_let (I : tq_PI M N og bs st kc ln dl) (X : tq_XA M N og bs st kc ln dl lt xo xn xd xb xl xs xL xk) (Y : tq_YA M og bs st kc dl lt yo yi yl yt ys yk) {r : Nat} (hr : r < 3) (x : Int32) :
    ∃ w : Int32, (∀ post : Int32 → Prop, post w → wpX_shownLetter post (nI M, nI N, xo, xn, xd, xb, xl, xs, xL, xk) (nI r) x) ∧
      (∀ (fs : Int32) (yx : Nat → Int32) (post : Int32 → SY → Prop), (∀ fs' yx', post w (nI M, fs', yo, yi, yl, yt, ys, yk, yx')) → wpY_letter post (nI M, fs, yo, yi, yl, yt, ys, yk, yx) (nI r) x) := by
  have h48 := I.1.1
  have hN := tq_pN I
  have hC := tq_cle (tq_S M og bs kc ln dl r) N
  rcases pk_ix x (n := tq_c (tq_S M og bs kc ln dl r) N) (by omega) with h | h | ⟨q, hq, rfl⟩
  · refine ⟨0, fun post hp => ?_, fun fs yx post hp => ?_⟩
    · unfold wpX_shownLetter
      exact tq_xsn I X hr (fun j hj e => tq_neg h j (by omega) e.symm) (br_t rfl hp)
    · unfold wpY_letter
      exact tq_repY hr (br_t rfl (tq_ylay I Y hr (fun yx' _ => br_t h (hp _ _))))
  · have h2 : ¬ x < nI (tq_c (tq_S M og bs kc ln dl r) N) := Int32.not_lt.mpr h
    refine ⟨0, fun post hp => ?_, fun fs yx post hp => ?_⟩
    · unfold wpX_shownLetter
      exact tq_xsn I X hr (fun j hj e => nI_ge hj (by omega) (by rw [e]; exact h)) (br_t rfl hp)
    · unfold wpY_letter
      exact tq_repY hr (br_t rfl (tq_ylay I Y hr (fun yx' _ => br_c (fun _ => hp _ _) (fun _ => br_f h2 (hp _ _)))))
  · obtain ⟨i, i1, i2, i3, i4⟩ := tq_cex hq
    have hl := I.2.2.2.2.2.2.1 i i1 i2
    have hin : vp_in (nI (ln i - 1)) 48 := vp_in_nI (by omega) (by omega)
    refine ⟨lt (ln i), fun post hp => ?_, fun fs yx post hp => ?_⟩
    · unfold wpX_shownLetter
      refine tq_xsi I X hr i1 i2 i3 (by rw [i4]) (br_f (fun e => tq_neg tq_m1 (ln i - 1) (by omega) e.symm) ⟨hin, ?_⟩)
      have := (X.2.1 (ln i - 1) (by omega) (by rw [Nat.sub_add_cancel hl.1]; exact hl.2.2)).1
      rw [nI_clamp (by omega), this, Nat.sub_add_cancel hl.1]
      exact hp
    · unfold wpY_letter
      refine tq_repY hr (br_t rfl (tq_ylay I Y hr (fun yx' tx => br_f (nI_pos (by omega)) (br_t (nI_lt hq (by omega)) ⟨vp_in_nI (by omega) (by omega), ?_⟩))))
      have e : yx' (nI q).toNatClampNeg = nI (ln i - 1) := by
        rw [nI_clamp (by omega), ← i4]
        exact tx i i1 i2 i3
      rw [e]
      refine ⟨hin, ?_⟩
      rw [(tq_yst Y hl.1 hl.2.1 hl.2.2 h48 rfl).1]
      exact hp _ _
theorem tq_ali (I : tq_PI M N og bs st kc ln dl) (X : tq_XA M N og bs st kc ln dl lt xo xn xd xb xl xs xL xk) (Y : tq_YA M og bs st kc dl lt yo yi yl yt ys yk) {a b C : Nat} (ha : a < 3) (hb : b < 3) (hC : C ≤ 48) : ∀ k i, i + k = C →
    ∃ w : Int32, (∀ post : Int32 → Prop, post w → wX_alike_36 post (nI a) (nI b) (nI C) (nI M) (nI N) xo xn xd xb xl xs xL xk (k + 1) (nI i)) ∧
      (∀ (fs : Int32) (yx : Nat → Int32) (post : Int32 → SY → Prop), (∀ fs' yx', post w (nI M, fs', yo, yi, yl, yt, ys, yk, yx')) → wY_alike_36 post (nI a) (nI b) (nI C) (k + 1) (nI i) (nI M) fs yo yi yl yt ys yk yx) := by
  intro k
  induction k with
  | zero =>
    intro i hi
    have h : nI C ≤ nI i := nI_le (by omega) (by omega)
    exact ⟨1, fun post hp => br_t h hp, fun fs yx post hp => br_t h (hp _ _)⟩
  | succ k ih =>
    intro i hi
    have h : ¬ nI C ≤ nI i := nI_ge (by omega) (by omega)
    obtain ⟨wa, ax, ay⟩ := tq_let I X Y ha (nI i)
    obtain ⟨wb, bx, bY⟩ := tq_let I X Y hb (nI i)
    by_cases e : wa = wb
    · obtain ⟨w, wx, wy⟩ := ih (i + 1) (by omega)
      refine ⟨w, fun post hp => br_f h (ax _ (bx _ (br_t e fun y ey => ?_))), fun fs yx post hp => br_f h (ay _ _ _ (fun fs1 yx1 => bY _ _ _ (fun fs2 yx2 => br_t e fun y ey => ?_)))⟩
      · rw [ey, nI_1]
        exact wx post hp
      · rw [ey, nI_1]
        exact wy _ _ post hp
    · exact ⟨0, fun post hp => br_f h (ax _ (bx _ (br_f e hp))), fun fs yx post hp => br_f h (ay _ _ _ (fun fs1 yx1 => bY _ _ _ (fun fs2 yx2 => br_f e (hp _ _))))⟩
end
theorem i_vc_length {k : Nat} {u : SX} {v : SY} (I : i_Rel k u v) (hk : k + 4 ≤ 2048) (v1 : Int32) : wpX_length (fun r => wpY_length (fun r' v' => r' = r ∧ i_Rel (k + 4) u v') v v1) u v1 := by
  obtain ⟨M, N, og, bs, st, kc, ln, dl, lt, xo, xn, xd, xb, xl, xs, xL, xk, fs, yo, yi, yl, yt, ys, yk, yx, P, X, Y, rfl, rfl⟩ := I
  unfold wpX_length
  rcases tq_rep v1 with ⟨r, hr, rfl⟩ | ⟨hX, hY⟩
  · exact tq_repX hr (br_f tq_10 (tq_xlen P X hr (tq_ylen P Y hr (fun fs' yx' => ⟨rfl, tq_mk _ P X Y _ _⟩))))
  · refine hX _ (br_t rfl ?_)
    unfold wpY_length
    exact hY _ (br_f tq_10 ⟨rfl, tq_mk _ P X Y _ _⟩)
theorem i_vc_letter {k : Nat} {u : SX} {v : SY} (I : i_Rel k u v) (hk : k + 4 ≤ 2048) (v1 : Int32) (v2 : Int32) : wpX_letter (fun r => wpY_letter (fun r' v' => r' = r ∧ i_Rel (k + 4) u v') v v1 v2) u v1 v2 := by
  obtain ⟨M, N, og, bs, st, kc, ln, dl, lt, xo, xn, xd, xb, xl, xs, xL, xk, fs, yo, yi, yl, yt, ys, yk, yx, P, X, Y, rfl, rfl⟩ := I
  unfold wpX_letter
  rcases tq_rep v1 with ⟨r, hr, rfl⟩ | ⟨hX, hY⟩
  · obtain ⟨w, wx, wy⟩ := tq_let P X Y hr v2
    exact tq_repX hr (br_f tq_10 (wx _ (wy _ _ _ (fun fs' yx' => ⟨rfl, tq_mk _ P X Y _ _⟩))))
  · refine hX _ (br_t rfl ?_)
    unfold wpY_letter
    exact hY _ (br_f tq_10 ⟨rfl, tq_mk _ P X Y _ _⟩)
theorem i_vc_row {k : Nat} {u : SX} {v : SY} (I : i_Rel k u v) (hk : k + 4 ≤ 2048) (v1 : Int32) : wpX_row (fun r => wpY_row (fun r' => r' = r ∧ i_Rel (k + 4) u v) v v1) u v1 := by
  obtain ⟨M, N, og, bs, st, kc, ln, dl, lt, xo, xn, xd, xb, xl, xs, xL, xk, fs, yo, yi, yl, yt, ys, yk, yx, P, X, Y, rfl, rfl⟩ := I
  unfold wpX_row
  rcases tq_rep v1 with ⟨r, hr, rfl⟩ | ⟨hX, hY⟩
  · refine tq_repX hr (br_f tq_10 ⟨N + 1, tq_xrow0 P X hr ?_ N 0 (by omega)⟩)
    unfold wpY_row
    refine tq_repY hr (br_t rfl ⟨M + 1, tq_yrow0 P Y hr ⟨?_, tq_mk _ P X Y _ _⟩ M 0 (by omega)⟩)
    rw [P.2.2.2.2.2.2.2.2 (tq_kn og kc r)]
    exact congrArg nI (tq_ccong M (fun e _ _ => Bool.and_comm _ _))
  · refine hX _ (br_t rfl ?_)
    unfold wpY_row
    exact hY _ (br_f tq_10 ⟨rfl, tq_mk _ P X Y _ _⟩)
theorem i_vc_known {k : Nat} {u : SX} {v : SY} (I : i_Rel k u v) (hk : k + 4 ≤ 2048) (v1 : Int32) (v2 : Int32) : wpX_known (fun r => wpY_known (fun r' => r' = r ∧ i_Rel (k + 4) u v) v v1 v2) u v1 v2 := by
  obtain ⟨M, N, og, bs, st, kc, ln, dl, lt, xo, xn, xd, xb, xl, xs, xL, xk, fs, yo, yi, yl, yt, ys, yk, yx, P, X, Y, rfl, rfl⟩ := I
  unfold wpX_known
  rcases tq_rep v1 with ⟨r, hr, rfl⟩ | ⟨hX, hY⟩
  · refine tq_repX hr (br_f tq_10 ?_)
    rcases tq_rep v2 with ⟨o, ho, rfl⟩ | ⟨hX, hY⟩
    · refine tq_repX ho (br_f tq_10 ?_)
      rw [tq_r3]
      refine ⟨vp_in_nI (by omega) (by omega), ?_⟩
      rw [nI_clamp (by omega), X.2.2.2 _ (by omega)]
      unfold wpY_known
      exact tq_repY hr (br_t rfl (tq_repY ho (br_t rfl ⟨M + 1, tq_ykn0 P Y hr ho ⟨congrArg nI (tq_kcount P hr ho), tq_mk _ P X Y _ _⟩ M 0 (by omega)⟩)))
    · refine hX _ (br_t rfl ?_)
      unfold wpY_known
      exact tq_repY hr (br_t rfl (hY _ (br_f tq_10 ⟨rfl, tq_mk _ P X Y _ _⟩)))
  · refine hX _ (br_t rfl ?_)
    unfold wpY_known
    exact hY _ (br_f tq_10 ⟨rfl, tq_mk _ P X Y _ _⟩)
theorem i_vc_alike {k : Nat} {u : SX} {v : SY} (I : i_Rel k u v) (hk : k + 4 ≤ 2048) (v1 : Int32) (v2 : Int32) : wpX_alike (fun r => wpY_alike (fun r' v' => r' = r ∧ i_Rel (k + 4) u v') v v1 v2) u v1 v2 := by
  obtain ⟨M, N, og, bs, st, kc, ln, dl, lt, xo, xn, xd, xb, xl, xs, xL, xk, fs, yo, yi, yl, yt, ys, yk, yx, P, X, Y, rfl, rfl⟩ := I
  unfold wpX_alike
  rcases tq_rep v1 with ⟨a, ha, rfl⟩ | ⟨hX, hY⟩
  · refine tq_repX ha (br_f tq_10 ?_)
    rcases tq_rep v2 with ⟨b, hb, rfl⟩ | ⟨hX, hY⟩
    · have h48 := P.1.1
      have hN := tq_pN P
      have ca := tq_cle (tq_S M og bs kc ln dl a) N
      have cb := tq_cle (tq_S M og bs kc ln dl b) N
      refine tq_repX hb (br_f tq_10 (tq_xlen P X ha (tq_xlen P X hb ?_)))
      by_cases e : tq_c (tq_S M og bs kc ln dl a) N = tq_c (tq_S M og bs kc ln dl b) N
      · obtain ⟨w, wx, wy⟩ := tq_ali P X Y ha hb (C := tq_c (tq_S M og bs kc ln dl a) N) (by omega) (tq_c (tq_S M og bs kc ln dl a) N) 0 (by omega)
        refine br_t (congrArg nI e) ⟨_, wx _ ?_⟩
        unfold wpY_alike
        exact tq_repY ha (br_t rfl (tq_repY hb (br_t rfl (tq_ylen P Y ha (fun fs1 yx1 => tq_ylen P Y hb (fun fs2 yx2 => br_t (congrArg nI e.symm) ⟨_, wy _ _ _ (fun fs' yx' => ⟨rfl, tq_mk _ P X Y _ _⟩)⟩))))))
      · refine br_f (fun z => e ((nI_eq (by omega) (by omega)).mp z)) ?_
        unfold wpY_alike
        exact tq_repY ha (br_t rfl (tq_repY hb (br_t rfl (tq_ylen P Y ha (fun fs1 yx1 => tq_ylen P Y hb (fun fs2 yx2 => br_f (fun z => e ((nI_eq (by omega) (by omega)).mp z).symm) ⟨rfl, tq_mk _ P X Y _ _⟩))))))
    · refine hX _ (br_t rfl ?_)
      unfold wpY_alike
      exact tq_repY ha (br_t rfl (hY _ (br_f tq_10 ⟨rfl, tq_mk _ P X Y _ _⟩)))
  · refine hX _ (br_t rfl ?_)
    unfold wpY_alike
    exact hY _ (br_f tq_10 ⟨rfl, tq_mk _ P X Y _ _⟩)
