/-! one change more: how both sides write it -/
section
variable {M N : Nat} {og bs st kc ln : Nat → Nat} {dl : Nat → Bool} {lt : Nat → Int32} {xo xn xd xb xl xs xL xk : Nat → Int32} {fs : Int32} {yo yi yl yt ys yk yx : Nat → Int32}
theorem tq_XA2 (I : tq_PI M N og bs st kc ln dl) (X : tq_XA M N og bs st kc ln dl lt xo xn xd xb xl xs xL xk) {r b s : Nat} {z : Bool} {l : Int32} {xl' xs' : Nat → Int32} (hr : r < 3)
    (h1 : ∀ c, c < M → xl' c = xl c ∧ xs' c = xs c) (h2 : z = false → xl' M = l ∧ xs' M = nI s) :
    tq_XA (M + 1) N (tq_up og (M + 1) r) (tq_up bs (M + 1) b) (tq_up st (M + 1) s) (tq_kc1 kc (r * 3 + r)) ln (tq_up dl (M + 1) z) (tq_up lt (M + 1) l)
      (upd xo M (nI r)) (upd xn M (nI (kc (r * 3 + r) + 1))) (upd xd M (tq_01 z)) (upd xb M (tq_b b)) xl' xs' xL (upd xk (r * 3 + r) (xk (r * 3 + r) + 1)) := by
  refine ⟨fun c hc => ?_, fun c hc hd => ?_, X.2.2.1, fun j hj => ?_⟩
  · by_cases w : c = M
    · rw [w, pk_us, pk_us, pk_us, pk_us, tq_us, tq_us, tq_us, tq_nuup1, I.2.2.2.2.1 r hr]
      exact ⟨rfl, rfl, rfl, rfl⟩
    · rw [pk_un w, pk_un w, pk_un w, pk_un w, tq_un (by omega), tq_un (by omega), tq_un (by omega), tq_nuup (by omega)]
      exact X.1 c (by omega)
  · by_cases w : c = M
    · rw [w, tq_us] at hd
      rw [w, tq_us, tq_us]
      exact h2 hd
    · rw [tq_un (by omega)] at hd
      rw [tq_un (by omega), tq_un (by omega), (h1 c (by omega)).1, (h1 c (by omega)).2]
      exact X.2.1 c (by omega) hd
  · unfold tq_kc1
    by_cases w : j = r * 3 + r
    · rw [w, pk_us, if_pos rfl, X.2.2.2 _ (by omega), nI_1]
    · rw [pk_un w, if_neg w]
      exact X.2.2.2 j hj
theorem tq_xmake (I : tq_PI M N og bs st kc ln dl) (X : tq_XA M N og bs st kc ln dl lt xo xn xd xb xl xs xL xk) {r : Nat} {x : Int32} (hr : r < 3) (hM : M < 48) {post : Int32 → SX → Prop}
    (hp : post (nI M) (nI (M + 1), nI N, upd xo M (nI r), upd xn M (nI (kc (r * 3 + r) + 1)), xd, upd xb M x, xl, xs, xL, upd xk (r * 3 + r) (xk (r * 3 + r) + 1))) :
    wpX_makeChange post (nI M, nI N, xo, xn, xd, xb, xl, xs, xL, xk) (nI r) x := by
  have e1 : nI r * 3 + nI r = nI (r * 3 + r) := tq_r3
  have i1 : vp_in (nI r * 3 + nI r) 9 := by rw [e1]; exact vp_in_nI (by omega) (by omega)
  have c1 : (nI r * 3 + nI r).toNatClampNeg = r * 3 + r := by rw [e1]; exact nI_clamp (by omega)
  have iM : vp_in (nI M) 48 := vp_in_nI hM (by omega)
  have cM : (nI M).toNatClampNeg = M := nI_clamp (by omega)
  refine fun m em => ⟨i1, i1, fun k ek => ⟨iM, fun o eo => ⟨i1, iM, fun n en => ⟨iM, fun b eb => ?_⟩⟩⟩⟩
  rw [c1] at ek en
  rw [cM] at eo en eb
  rw [ek, pk_us, X.2.2.2 _ (by omega), nI_1] at en
  rw [nI_1] at em
  subst em ek eo en eb
  exact hp
theorem tq_xgr (h48 : M ≤ 48) (X : tq_XA M N og bs st kc ln dl lt xo xn xd xb xl xs xL xk) (hb : ∀ d, 1 ≤ d → d ≤ M → og d < 3 ∧ st d ≤ 48) {e d : Nat} {x y : Int32} (e1 : 1 ≤ e) (eM : e ≤ M) (ed : dl e = false) (hx : x = nI (e - 1))
    (d1 : 1 ≤ d) (dM : d ≤ M) (dd : dl d = false) (hy : y = nI (d - 1)) {post : Int32 → Prop} (hp : post (tq_01 (decide (tq_sk st og d < tq_sk st og e)))) :
    wpX_hasGreaterStamp post (nI M, nI N, xo, xn, xd, xb, xl, xs, xL, xk) x y := by
  have at1 : ∀ e : Nat, 1 ≤ e → e ≤ M → dl e = false → ∀ x : Int32, x = nI (e - 1) → vp_in x 48 ∧ xo x.toNatClampNeg = nI (og e) ∧ xs x.toNatClampNeg = nI (st e) := by
    intro e e1 eM ed x hx
    have a := (X.1 (e - 1) (by omega)).1
    have b := (X.2.1 (e - 1) (by omega) (by rw [Nat.sub_add_cancel e1]; exact ed)).2
    rw [Nat.sub_add_cancel e1] at a b
    rw [hx]
    refine ⟨vp_in_nI (by omega) (by omega), ?_⟩
    rw [nI_clamp (by omega)]
    exact ⟨a, b⟩
  have ax := at1 e e1 eM ed x hx
  have ay := at1 d d1 dM dd y hy
  have be := hb e e1 eM
  have bd := hb d d1 dM
  unfold tq_sk at hp
  refine ⟨ax.1, ay.1, pk_eq (st e) (st d) (fun c => ⟨ax.1, ay.1, pk_le (og e) (og d) (fun c2 => ?_) (fun c2 => ?_) ax.2.1 ay.2.1 (by omega) (by omega)⟩) (fun c => ⟨ax.1, ay.1, pk_le (st e) (st d) (fun c2 => ?_) (fun c2 => ?_) ax.2.2 ay.2.2 (by omega) (by omega)⟩) ax.2.2 ay.2.2 (by omega) (by omega)⟩
  · rw [decide_eq_false (by omega)] at hp
    exact hp
  · rw [decide_eq_true (by omega)] at hp
    exact hp
  · rw [decide_eq_false (by omega)] at hp
    exact hp
  · rw [decide_eq_true (by omega)] at hp
    exact hp
theorem tq_xpb0 (h48 : M ≤ 48) (hN : N < 48) (X : tq_XA M N og bs st kc ln dl lt xo xn xd xb xl xs xL xk) (hl : ∀ i, 1 ≤ i → i ≤ N → 1 ≤ ln i ∧ ln i ≤ M ∧ dl (ln i) = false)
    {b j : Nat} {x : Int32} (hx : x = tq_b b) (hbM : b ≤ M) (hj : j ≤ N) (ej : ln j = b) (uj : ∀ i, 1 ≤ i → i ≤ N → ln i = b → i = j) {post : Int32 → Prop} (hp : post (nI j)) :
    ∀ k i, i + k = N → (j = 0 ∨ i < j) → wX_placeBehind_2 post x (nI M) (nI N) xo xn xd xb xl xs xL xk (k + 1) (nI i) := by
  intro k
  induction k with
  | zero =>
    intro i hi h
    have j0 : j = 0 := by omega
    rw [j0] at hp
    exact br_t (nI_le (by omega) (by omega)) hp
  | succ k ih =>
    intro i hi h
    have hL := hl (i + 1) (by omega) (by omega)
    refine br_f (nI_ge (by omega) (by omega)) ⟨vp_in_nI (by omega) (by omega), tq_be (d := ln (i + 1)) (e := b) (by omega) (by omega) ?_ hx (fun c => ?_) (fun c => ?_)⟩
    · rw [nI_clamp (by omega), X.2.2.1 i (by omega), tq_bp hL.1]
    · rw [nI_1, uj (i + 1) (by omega) (by omega) c]
      exact hp
    · intro y ey
      rw [ey, nI_1]
      refine ih (i + 1) (by omega) ?_
      rcases h with h | h
      · exact Or.inl h
      · right
        by_cases w : i + 1 = j
        · exact absurd (by rw [w]; exact ej) c
        · omega
theorem tq_xpl0 (h48 : M ≤ 48) (hN : N < 48) (X : tq_XA M N og bs st kc ln dl lt xo xn xd xb xl xs xL xk) (hl : ∀ i, 1 ≤ i → i ≤ N → 1 ≤ ln i ∧ ln i ≤ M ∧ dl (ln i) = false) (hb : ∀ d, 1 ≤ d → d ≤ M → og d < 3 ∧ st d ≤ 48)
    {e j : Nat} {x : Int32} (e1 : 1 ≤ e) (eM : e ≤ M) (ed : dl e = false) (hx : x = nI (e - 1)) {post : Int32 → Prop}
    (hp : ∀ p, j ≤ p → p ≤ N → (∀ m, j < m → m ≤ p → tq_sk st og e < tq_sk st og (ln m)) → (p = N ∨ ¬ tq_sk st og e < tq_sk st og (ln (p + 1))) → post (nI p)) :
    ∀ k p, p + k = N → j ≤ p → (∀ m, j < m → m ≤ p → tq_sk st og e < tq_sk st og (ln m)) → wX_placeInLine_11 post x (nI M) (nI N) xo xn xd xb xl xs xL xk (k + 1) (nI p) := by
  intro k
  induction k with
  | zero =>
    intro p hpN hj hm
    exact br_t (nI_le (by omega) (by omega)) (hp p hj (by omega) hm (Or.inl (by omega)))
  | succ k ih =>
    intro p hpN hj hm
    have hL := hl (p + 1) (by omega) (by omega)
    refine br_f (nI_ge (by omega) (by omega)) ⟨vp_in_nI (by omega) (by omega), tq_xgr h48 X hb hL.1 hL.2.1 hL.2.2 (by rw [nI_clamp (by omega)]; exact X.2.2.1 p (by omega)) e1 eM ed hx (tq_br (fun c => ?_) (fun c => ?_))⟩
    · exact hp p hj (by omega) hm (Or.inr (of_decide_eq_false c))
    · intro y ey
      rw [ey, nI_1]
      refine ih (p + 1) (by omega) (by omega) (fun m m1 m2 => ?_)
      by_cases w : m = p + 1
      · rw [w]
        exact of_decide_eq_true c
      · exact hm m m1 (by omega)
theorem tq_xpt0 (hN : N < 48) {p : Nat} (hpN : p ≤ N) {x : Int32} {post : SX → Prop} {xM : Int32} {x0 : Nat → Int32}
    (hp : ∀ xL' : Nat → Int32, (∀ i, i < p → xL' i = x0 i) → xL' p = x → (∀ i, p < i → i ≤ N → xL' i = x0 (i - 1)) → post (xM, nI (N + 1), xo, xn, xd, xb, xl, xs, xL', xk)) :
    ∀ k w (xL : Nat → Int32), w = p + k → w ≤ N → (∀ i, i ≤ w → i < N → xL i = x0 i) → (∀ i, w < i → i ≤ N → xL i = x0 (i - 1)) → wX_putInLine_11 post x (nI p) xM (nI N) (k + 1) (nI w) xo xn xd xb xl xs xL xk := by
  intro k
  induction k with
  | zero =>
    intro w xL hw hwN h1 h2
    refine br_t (nI_le (by omega) (by omega)) ⟨vp_in_nI (by omega) (by omega), fun xL' e n en => ?_⟩
    rw [nI_clamp (by omega)] at e
    rw [nI_1] at en
    rw [en]
    refine hp xL' (fun i hi => ?_) ?_ (fun i i1 i2 => ?_)
    · rw [e, pk_un (by omega)]
      exact h1 i (by omega) (by omega)
    · rw [e, pk_us]
    · rw [e, pk_un (by omega)]
      exact h2 i (by omega) i2
  | succ k ih =>
    intro w xL hw hwN h1 h2
    obtain ⟨q, rfl⟩ : ∃ q, w = q + 1 := ⟨w - 1, by omega⟩
    have e1 : nI (q + 1) - 1 = nI q := nI_pred q
    refine br_f (nI_ge (by omega) (by omega)) ⟨?_, vp_in_nI (by omega) (by omega), fun xL' e y ey => ?_⟩
    · rw [e1]
      exact vp_in_nI (by omega) (by omega)
    · rw [e1, nI_clamp (by omega), nI_clamp (by omega)] at e
      rw [pk_m1] at ey
      rw [ey]
      refine ih q xL' (by omega) (by omega) (fun i i1 i2 => ?_) (fun i i1 i2 => ?_)
      · rw [e, pk_un (by omega)]
        exact h1 i (by omega) i2
      · by_cases z : i = q + 1
        · rw [e, z, pk_us, Nat.add_sub_cancel]
          exact h1 q (by omega) (by omega)
        · rw [e, pk_un z]
          exact h2 i (by omega) i2
/-- the component's whole way of putting e into the line -/
theorem tq_xput (h48 : M ≤ 48) (hN : N < 48) (X : tq_XA M N og bs st kc ln dl lt xo xn xd xb xl xs xL xk) (hl : ∀ i, 1 ≤ i → i ≤ N → 1 ≤ ln i ∧ ln i ≤ M ∧ dl (ln i) = false) (hb : ∀ d, 1 ≤ d → d ≤ M → og d < 3 ∧ st d ≤ 48)
    {e j : Nat} {x : Int32} (e1 : 1 ≤ e) (eM : e ≤ M) (ed : dl e = false) (hx : x = nI (e - 1)) (hbM : bs e ≤ M) (hj : j ≤ N) (ej : ln j = bs e) (uj : ∀ i, 1 ≤ i → i ≤ N → ln i = bs e → i = j) {post : SX → Prop}
    (hp : ∀ p xL', j ≤ p → p ≤ N → (∀ m, j < m → m ≤ p → tq_sk st og e < tq_sk st og (ln m)) → (p = N ∨ ¬ tq_sk st og e < tq_sk st og (ln (p + 1))) →
      tq_XA M (N + 1) og bs st kc (tq_ins ln p e) dl lt xo xn xd xb xl xs xL' xk → post (nI M, nI (N + 1), xo, xn, xd, xb, xl, xs, xL', xk)) :
    wpX_putInLine post (nI M, nI N, xo, xn, xd, xb, xl, xs, xL, xk) x := by
  unfold wpX_putInLine wpX_placeInLine
  have hxin : vp_in x 48 := by rw [hx]; exact vp_in_nI (by omega) (by omega)
  have hxb : xb x.toNatClampNeg = tq_b (bs e) := by
    rw [hx, nI_clamp (by omega)]
    have := (X.1 (e - 1) (by omega)).2.2.2
    rw [Nat.sub_add_cancel e1] at this
    exact this
  refine ⟨hxin, N + 1, tq_xpb0 h48 hN X hl hxb hbM hj ej uj ?_ N 0 (by omega) (by omega)⟩
  refine ⟨N - j + 1, tq_xpl0 h48 hN X hl hb e1 eM ed hx (fun p p1 p2 p3 p4 => ?_) (N - j) j (by omega) (Nat.le_refl _) (fun m a b => by omega)⟩
  refine ⟨N - p + 1, tq_xpt0 hN p2 (x0 := xL) (fun xL' a b c => ?_) (N - p) N xL (by omega) (Nat.le_refl _) (fun i _ _ => rfl) (fun i a b => by omega)⟩
  refine hp p xL' p1 p2 p3 p4 ⟨X.1, X.2.1, fun i hi => ?_, X.2.2.2⟩
  by_cases w : i < p
  · rw [a i w, tq_ins1 (by omega)]
    exact X.2.2.1 i (by omega)
  · by_cases w2 : i = p
    · rw [w2, b, tq_ins2]
      exact hx
    · rw [c i (by omega) (by omega), tq_ins3 (by omega), X.2.2.1 (i - 1) (by omega), Nat.sub_add_cancel (by omega)]
theorem tq_YAu (Y : tq_YA M og bs st kc dl lt yo yi yl yt ys yk) (a b c d : Int32) : tq_YA M og bs st kc dl lt (upd yo M a) (upd yi M b) (upd yl M c) (upd yt M d) ys yk := by
  refine ⟨fun i hi => ?_, fun i hi hd => ?_, Y.2.2⟩
  · rw [pk_un (by omega), pk_un (by omega), pk_un (by omega)]
    exact Y.1 i hi
  · rw [pk_un (by omega)]
    exact Y.2.1 i hi hd
theorem tq_YA2 (I : tq_PI M N og bs st kc ln dl) (Y : tq_YA M og bs st kc dl lt yo yi yl yt ys yk) {r b s s' : Nat} {z : Bool} {l : Int32} (hr : r < 3) (hM : M < 48) (hs : z = false → s' = s) :
    tq_YA (M + 1) (tq_up og (M + 1) r) (tq_up bs (M + 1) b) (tq_up st (M + 1) s) (tq_kc1 kc (r * 3 + r)) (tq_up dl (M + 1) z) (tq_up lt (M + 1) l)
      (upd yo M (nI r)) (upd yi M (tq_01 (!z))) (upd yl M l) (upd yt M (tq_b b)) (upd ys M (nI s')) (upd yk (48 * r + M) (tq_01 true)) := by
  refine ⟨fun c hc => ?_, fun c hc hd => ?_, fun q c hq hc => ?_⟩
  · by_cases w : c = M
    · rw [w, pk_us, pk_us, pk_us, tq_us, tq_us, tq_us]
      exact ⟨rfl, rfl, rfl⟩
    · rw [pk_un w, pk_un w, pk_un w, tq_un (by omega), tq_un (by omega), tq_un (by omega)]
      exact Y.1 c (by omega)
  · by_cases w : c = M
    · rw [w, tq_us] at hd
      rw [w, tq_us, tq_us, pk_us, pk_us, hs hd]
      exact ⟨rfl, rfl⟩
    · rw [tq_un (by omega)] at hd
      rw [tq_un (by omega), tq_un (by omega), pk_un w, pk_un w]
      exact Y.2.1 c (by omega) hd
  · by_cases w : c = M
    · rw [w, tq_knup1 I hr hq, decide_eq_true (show M < M + 1 by omega), Bool.true_and]
      by_cases v : q = r
      · rw [v, pk_us, decide_eq_true rfl]
      · rw [pk_un (by omega), Y.2.2 q M hq hM, decide_eq_false (show ¬ M < M by omega), decide_eq_false v]
        rfl
    · rw [pk_un (by omega), Y.2.2 q c hq hc]
      by_cases v : c < M
      · rw [decide_eq_true v, decide_eq_true (show c < M + 1 by omega), tq_knup I hr hq (by omega)]
      · rw [decide_eq_false v, decide_eq_false (show ¬ c < M + 1 by omega)]
        rfl
/-- the reference's make: whatever the line of the new picture -/
theorem tq_ymake (I : tq_PI M N og bs st kc ln dl) (Y : tq_YA M og bs st kc dl lt yo yi yl yt ys yk) {r b s N' : Nat} {ln' : Nat → Nat} {z : Bool} {p1 l x : Int32} (hr : r < 3) (hM : M < 48) (hp1 : vp_nar .boolean p1 = tq_01 (!z)) (hx : x = tq_b b)
    (hs : z = false → ∀ m, tq_Mx M st dl (tq_kn og kc r) m → m + 1 = s)
    (I' : tq_PI (M + 1) N' (tq_up og (M + 1) r) (tq_up bs (M + 1) b) (tq_up st (M + 1) s) (tq_kc1 kc (r * 3 + r)) ln' (tq_up dl (M + 1) z)) {post : Int32 → SY → Prop}
    (hp : ∀ fs' yo' yi' yl' yt' ys' yk' yx', tq_YA (M + 1) (tq_up og (M + 1) r) (tq_up bs (M + 1) b) (tq_up st (M + 1) s) (tq_kc1 kc (r * 3 + r)) (tq_up dl (M + 1) z) (tq_up lt (M + 1) l) yo' yi' yl' yt' ys' yk' →
      post (nI (tq_c (tq_S (M + 1) (tq_up og (M + 1) r) (tq_up bs (M + 1) b) (tq_kc1 kc (r * 3 + r)) ln' (tq_up dl (M + 1) z) r) N')) (nI (M + 1), fs', yo', yi', yl', yt', ys', yk', yx')) :
    wpY_make post (nI M, fs, yo, yi, yl, yt, ys, yk, yx) (nI r) p1 x l := by
  have iM : vp_in (nI M) 48 := vp_in_nI hM (by omega)
  have cM : (nI M).toNatClampNeg = M := nI_clamp (by omega)
  have e48 : 48 * nI r + nI M = nI (48 * r + M) := tq_r48
  subst hx
  refine ⟨iM, fun o eo => ⟨iM, fun i ei => ⟨iM, fun t et => ⟨iM, fun q eq => ?_⟩⟩⟩⟩
  rw [cM] at eo ei et eq
  rw [hp1] at ei
  subst eo ei et eq
  refine ⟨M + 1, tq_ymx0 I (tq_YAu Y _ _ _ _) hr (fun m hm => ⟨iM, fun a ea => ⟨?_, fun w ew n en => ?_⟩⟩) M 0 0 (by omega) (fun e a b => by omega) (Or.inl rfl)⟩
  · rw [e48]
    exact vp_in_nI (by omega) (by omega)
  · rw [cM, nI_1] at ea
    rw [e48, nI_clamp (by omega), tq_bo1] at ew
    rw [nI_1] at en
    subst ea ew en
    have Y' := tq_YA2 I Y (r := r) (b := b) (s := s) (s' := m + 1) (z := z) (l := l) hr hM (fun h => hs h m hm)
    exact tq_ylen I' Y' hr (fun fs' yx' => hp fs' _ _ _ _ _ _ yx' Y')
end
