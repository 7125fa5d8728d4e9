/-! the reference's reading methods against the same pictures -/
def tq_YA (M : Nat) (og bs st kc : Nat → Nat) (dl : Nat → Bool) (lt : Nat → Int32) (yo yi yl yt ys yk : Nat → Int32) : Prop :=
  (∀ c, c < M → yo c = nI (og (c + 1)) ∧ yi c = tq_01 (!dl (c + 1)) ∧ yt c = tq_b (bs (c + 1))) ∧
  (∀ c, c < M → dl (c + 1) = false → yl c = lt (c + 1) ∧ ys c = nI (st (c + 1))) ∧
  (∀ r c, r < 3 → c < 48 → yk (48 * r + c) = tq_01 (decide (c < M) && tq_kn og kc r (c + 1)))
section
variable {M N : Nat} {og bs st kc ln : Nat → Nat} {dl : Nat → Bool} {lt : Nat → Int32} {fs : Int32} {yo yi yl yt ys yk yx : Nat → Int32}
theorem tq_yk (I : tq_PI M N og bs st kc ln dl) (Y : tq_YA M og bs st kc dl lt yo yi yl yt ys yk) {r e : Nat} {x : Int32} (hr : r < 3) (h1 : 1 ≤ e) (hM : e ≤ M) (hx : x = nI (e - 1)) :
    vp_in (48 * nI r + x) 144 ∧ yk (48 * nI r + x).toNatClampNeg = tq_01 (tq_kn og kc r e) := by
  have h48 := I.1.1
  rw [hx, tq_r48]
  refine ⟨vp_in_nI (by omega) (by omega), ?_⟩
  rw [nI_clamp (by omega), Y.2.2 r (e - 1) hr (by omega), Nat.sub_add_cancel h1, show decide (e - 1 < M) = true from decide_eq_true (by omega), Bool.true_and]
theorem tq_yat (Y : tq_YA M og bs st kc dl lt yo yi yl yt ys yk) {e : Nat} (h1 : 1 ≤ e) (hM : e ≤ M) (h48 : M ≤ 48) {x : Int32} (hx : x = nI (e - 1)) :
    vp_in x 48 ∧ yo x.toNatClampNeg = nI (og e) ∧ yi x.toNatClampNeg = tq_01 (!dl e) ∧ yt x.toNatClampNeg = tq_b (bs e) := by
  have := Y.1 (e - 1) (by omega)
  rw [Nat.sub_add_cancel h1] at this
  rw [hx]
  refine ⟨vp_in_nI (by omega) (by omega), ?_⟩
  rw [nI_clamp (by omega)]
  exact this
theorem tq_yst (Y : tq_YA M og bs st kc dl lt yo yi yl yt ys yk) {e : Nat} (h1 : 1 ≤ e) (hM : e ≤ M) (hd : dl e = false) (h48 : M ≤ 48) {x : Int32} (hx : x = nI (e - 1)) :
    yl x.toNatClampNeg = lt e ∧ ys x.toNatClampNeg = nI (st e) := by
  have := Y.2.1 (e - 1) (by omega) (by rw [Nat.sub_add_cancel h1]; exact hd)
  rw [Nat.sub_add_cancel h1] at this
  rw [hx, nI_clamp (by omega)]
  exact this
theorem tq_yrow (I : tq_PI M N og bs st kc ln dl) (Y : tq_YA M og bs st kc dl lt yo yi yl yt ys yk) {r e : Nat} {x : Int32} (hr : r < 3) (h1 : 1 ≤ e) (hM : e ≤ M) (hx : x = nI (e - 1))
    {post : Int32 → Prop} (hp : post (tq_01 (tq_kn og kc r e && !dl e))) : wpY_inRow post (nI M, fs, yo, yi, yl, yt, ys, yk, yx) (nI r) x := by
  have hk := tq_yk I Y hr h1 hM hx
  have ha := tq_yat Y h1 hM I.1.1 hx
  refine ⟨hk.1, tq_bx hk.2 (fun k0 => ?_) (fun k1 => ⟨ha.1, tq_bx ha.2.2.1 (fun d0 => ?_) (fun d1 => ?_)⟩)⟩
  · rw [k0] at hp
    exact hp
  · rw [d0, Bool.and_false] at hp
    exact hp
  · rw [k1, d1] at hp
    exact hp
theorem tq_ygr (I : tq_PI M N og bs st kc ln dl) (Y : tq_YA M og bs st kc dl lt yo yi yl yt ys yk) {e d : Nat} {x y : Int32} (e1 : 1 ≤ e) (eM : e ≤ M) (ed : dl e = false) (hx : x = nI (e - 1))
    (d1 : 1 ≤ d) (dM : d ≤ M) (dd : dl d = false) (hy : y = nI (d - 1))
    {post : Int32 → Prop} (hp : post (tq_01 (decide (tq_sk st og d < tq_sk st og e)))) : wpY_greater post (nI M, fs, yo, yi, yl, yt, ys, yk, yx) x y := by
  have h48 := I.1.1
  have ax := tq_yat Y e1 eM h48 hx
  have ay := tq_yat Y d1 dM h48 hy
  have bx := (tq_yst Y e1 eM ed h48 hx).2
  have bY := (tq_yst Y d1 dM dd h48 hy).2
  have ie := I.2.1 e e1 eM
  have id' := I.2.1 d d1 dM
  unfold tq_sk at hp
  refine ⟨ax.1, ay.1, pk_lt (st d) (st e) (fun c => ?_) (fun c => ⟨ax.1, ay.1, pk_eq (st e) (st d) (fun c2 => ⟨ax.1, ay.1, pk_le (og e) (og d) (fun c3 => ?_) (fun c3 => ?_) ax.2.1 ay.2.1 (by omega) (by omega)⟩) (fun c2 => ?_) bx bY (by omega) (by omega)⟩) bY bx (by omega) (by omega)⟩
  · rw [decide_eq_true (by omega)] at hp
    exact hp
  · rw [decide_eq_false (by omega)] at hp
    exact hp
  · rw [decide_eq_true (by omega)] at hp
    exact hp
  · rw [decide_eq_false (by omega)] at hp
    exact hp
theorem tq_GN {K : Nat → Bool} {sk : Nat → Nat} {a b c x : Nat} (g : tq_G M bs dl K sk a b c x) (n : ¬ tq_F M bs dl K sk a b (c + 1)) : tq_G M bs dl K sk a b (c + 1) x := by
  have key : ∀ e, e ≤ c + 1 → tq_F M bs dl K sk a b e → e ≤ c := fun e h f => by
    by_cases w : e = c + 1
    · rw [w] at f
      exact absurd f n
    · omega
  rcases g with g | g
  · exact Or.inl ⟨g.1, fun e h f => g.2 e (key e h f) f⟩
  · exact Or.inr ⟨g.1, by have := g.2.1; omega, fun e h f => g.2.2 e (key e h f) f⟩
theorem tq_GF {K : Nat → Bool} {sk : Nat → Nat} {a b c x : Nat} (g : tq_G M bs dl K sk a b c x) (f : tq_F M bs dl K sk a b (c + 1)) (hx : x = 0 ∨ sk x < sk (c + 1)) : tq_G M bs dl K sk a b (c + 1) (c + 1) := by
  refine Or.inr ⟨f, Nat.le_refl _, fun e h fe => ?_⟩
  by_cases w : e = c + 1
  · rw [w]
    exact Nat.le_refl _
  · rcases g with g | g
    · exact absurd fe (g.2 e (by omega))
    · have := g.2.2 e (by omega) fe
      have := g.1.1
      omega
theorem tq_GL {K : Nat → Bool} {sk : Nat → Nat} {a b c x : Nat} (g : tq_G M bs dl K sk a b c x) (h1 : 1 ≤ x) (hx : sk (c + 1) ≤ sk x) : tq_G M bs dl K sk a b (c + 1) x := by
  rcases g with g | g
  · have := g.1
    omega
  · refine Or.inr ⟨g.1, by have := g.2.1; omega, fun e h fe => ?_⟩
    by_cases w : e = c + 1
    · rw [w]
      exact hx
    · exact g.2.2 e (by omega) fe
theorem tq_y55 (I : tq_PI M N og bs st kc ln dl) (Y : tq_YA M og bs st kc dl lt yo yi yl yt ys yk) {a b c x : Nat} {K : Nat → Bool} {z : Bool} {z0 x1 x2 x3 : Int32} (hc : c < M)
    (g : tq_G M bs dl K (tq_sk st og) a b c x) (hz : z0 = tq_01 z) (zt : z = true → tq_F M bs dl K (tq_sk st og) a b (c + 1)) (zf : z = false → ¬ tq_F M bs dl K (tq_sk st og) a b (c + 1))
    {post : Int32 → Prop} {J : Int32 → Int32 → Prop} (hJ : ∀ x', tq_G M bs dl K (tq_sk st og) a b (c + 1) x' → J (tq_b x') (nI (c + 1))) :
    wY_following_55 post J x1 x2 x3 (tq_b x) (nI c) z0 (nI M) fs yo yi yl yt ys yk yx := by
  have h48 := I.1.1
  have hxM : x ≤ 48 := by
    rcases g with g | g
    · omega
    · have := g.2.1
      omega
  refine tq_bx hz (fun h => ?_) (fun h => tq_bl (by omega) rfl (fun x0 => ?_) (fun x1 => ?_))
  · intro y ey
    rw [ey, nI_1]
    exact hJ x (tq_GN g (zf h))
  · intro y ey
    rw [ey, nI_1, ← tq_bs c]
    exact hJ (c + 1) (tq_GF g (zt h) (Or.inl x0))
  · have f := zt h
    have fx : tq_F M bs dl K (tq_sk st og) a b x := by
      rcases g with g | g
      · have := g.1
        omega
      · exact g.1
    refine tq_ygr I Y f.1 f.2.1 f.2.2.1 rfl fx.1 fx.2.1 fx.2.2.1 (tq_bp x1) (tq_br (fun w => ?_) (fun w => ?_))
    · intro y ey
      rw [ey, nI_1]
      exact hJ x (tq_GL g x1 (Nat.le_of_not_lt (of_decide_eq_false w)))
    · intro y ey
      rw [ey, nI_1, ← tq_bs c]
      exact hJ (c + 1) (tq_GF g f (Or.inr (of_decide_eq_true w)))
theorem tq_yfol0 (I : tq_PI M N og bs st kc ln dl) (Y : tq_YA M og bs st kc dl lt yo yi yl yt ys yk) {r a b : Nat} {x2 x3 : Int32} (hr : r < 3) (ha : a ≤ M) (hb : b ≤ M) (hbd : 1 ≤ b → dl b = false)
    (h2 : x2 = tq_b a) (h3 : x3 = tq_b b) {post : Int32 → Prop} (hp : ∀ x, tq_G M bs dl (tq_kn og kc r) (tq_sk st og) a b M x → post (tq_b x)) :
    ∀ k c x, c + k = M → tq_G M bs dl (tq_kn og kc r) (tq_sk st og) a b c x → wY_following_6 post (nI r) x2 x3 (nI M) fs yo yi yl yt ys yk yx (k + 1) (tq_b x) (nI c) := by
  have h48 := I.1.1
  intro k
  induction k with
  | zero =>
    intro c x hc g
    refine br_t (nI_le (by omega) (by omega)) (hp x ?_)
    rw [show M = c by omega] at g ⊢
    exact g
  | succ k ih =>
    intro c x hc g
    have hc' : c < M := by omega
    have hJ := fun x' g' => ih (c + 1) x' (by omega) g'
    have hat := tq_yat Y (e := c + 1) (by omega) (by omega) h48 (x := nI c) rfl
    have hB := (I.2.1 (c + 1) (by omega) (by omega)).2.1
    refine br_f (nI_ge (by omega) (by omega)) (tq_yrow I Y (e := c + 1) hr (by omega) (by omega) rfl (tq_br (fun r0 => ?_) (fun r1 => ⟨hat.1, ?_⟩)))
    · refine tq_y55 I Y (z := false) hc' g rfl (fun h => Bool.noConfusion h) (fun _ f => ?_) hJ
      rw [f.2.2.2.1, f.2.2.1] at r0
      exact Bool.noConfusion r0
    · have hk : tq_kn og kc r (c + 1) = true ∧ dl (c + 1) = false := by
        cases h1 : tq_kn og kc r (c + 1) <;> cases h2 : dl (c + 1) <;> simp_all
      refine tq_be (by omega) (by omega) hat.2.2.2 h2 (fun e => ?_) (fun e => ?_)
      · refine tq_bl (by omega) h3 (fun b0 => ?_) (fun b1 => ?_)
        · exact tq_y55 I Y (z := true) hc' g rfl (fun _ => ⟨by omega, by omega, hk.2, hk.1, e, Or.inl b0⟩) (fun h => Bool.noConfusion h) hJ
        · refine tq_ygr I Y b1 hb (hbd b1) (h3.trans (tq_bp b1)) (by omega) (by omega) hk.2 rfl (tq_br (fun w => ?_) (fun w => ?_))
          · refine tq_y55 I Y (z := false) hc' g rfl (fun h => Bool.noConfusion h) (fun _ f => ?_) hJ
            rcases f.2.2.2.2.2 with q | q
            · omega
            · exact absurd q (of_decide_eq_false w)
          · exact tq_y55 I Y (z := true) hc' g rfl (fun _ => ⟨by omega, by omega, hk.2, hk.1, e, Or.inr (of_decide_eq_true w)⟩) (fun h => Bool.noConfusion h) hJ
      · exact tq_y55 I Y (z := false) hc' g rfl (fun h => Bool.noConfusion h) (fun _ f => e f.2.2.2.2.1) hJ
theorem tq_yfol (I : tq_PI M N og bs st kc ln dl) (Y : tq_YA M og bs st kc dl lt yo yi yl yt ys yk) {r a b : Nat} {x2 x3 : Int32} (hr : r < 3) (ha : a ≤ M) (hb : b ≤ M) (hbd : 1 ≤ b → dl b = false)
    (h2 : x2 = tq_b a) (h3 : x3 = tq_b b) {post : Int32 → Prop} (hp : ∀ x, tq_G M bs dl (tq_kn og kc r) (tq_sk st og) a b M x → post (tq_b x)) :
    wpY_following post (nI M, fs, yo, yi, yl, yt, ys, yk, yx) (nI r) x2 x3 :=
  ⟨M + 1, tq_yfol0 I Y hr ha hb hbd h2 h3 hp M 0 0 (by omega) (Or.inl ⟨rfl, fun e h f => by have := f.1; omega⟩)⟩
theorem tq_ygone0 (I : tq_PI M N og bs st kc ln dl) (Y : tq_YA M og bs st kc dl lt yo yi yl yt ys yk) {r e : Nat} {x : Int32} (hr : r < 3) (he : e ≤ M) (hx : x = tq_b e)
    {post : Int32 → Prop} (hp : post (tq_01 (tq_tk M og bs kc dl r e))) : ∀ k c, c + k = M → tq_c (tq_D og bs kc dl r e) c = 0 → wY_gone_2 post (nI r) x (nI M) fs yo yi yl yt ys yk yx (k + 1) (nI c) := by
  have h48 := I.1.1
  intro k
  induction k with
  | zero =>
    intro c hc h0
    refine br_t (nI_le (by omega) (by omega)) ?_
    have : tq_tk M og bs kc dl r e = false := decide_eq_false (by rw [show M = c by omega, h0]; omega)
    rw [this] at hp
    exact hp
  | succ k ih =>
    intro c hc h0
    have hat := tq_yat Y (e := c + 1) (by omega) (by omega) h48 (x := nI c) rfl
    have hk := tq_yk I Y (e := c + 1) (x := nI c) hr (by omega) (by omega) rfl
    have hb := (I.2.1 (c + 1) (by omega) (by omega)).2.1
    have step : tq_D og bs kc dl r e (c + 1) = false → ∀ y : Int32, y = nI c + 1 → wY_gone_2 post (nI r) x (nI M) fs yo yi yl yt ys yk yx (k + 1) y := fun hd y ey => by
      rw [ey, nI_1]
      exact ih (c + 1) (by omega) (by rw [tq_cF hd]; exact h0)
    refine br_f (nI_ge (by omega) (by omega)) ⟨hk.1, tq_bx hk.2 (fun k0 => step (by simp [tq_D, k0])) (fun k1 => ⟨hat.1, tq_bx hat.2.2.1 (fun d0 => ⟨hat.1, ?_⟩) (fun d1 => step (by simp at d1; simp [tq_D, d1]))⟩)⟩
    refine tq_be (d := bs (c + 1)) (e := e) (by omega) (by omega) hat.2.2.2 hx (fun be => ?_) (fun be => step (by simp [tq_D, be]))
    have d0' : dl (c + 1) = true := by simpa using d0
    have : tq_tk M og bs kc dl r e = true := decide_eq_true (by
      have := tq_cpos (P := tq_D og bs kc dl r e) (e := c + 1) (n := M) (by omega) (by omega) (by simp [tq_D, d0', be, k1])
      omega)
    rw [this] at hp
    exact hp
theorem tq_ynext0 (I : tq_PI M N og bs st kc ln dl) (Y : tq_YA M og bs st kc dl lt yo yi yl yt ys yk) {r i t : Nat} (hr : r < 3) (hi : i ≤ N) (hT : tq_T N ln (tq_kn og kc r) i t)
    {post : Int32 → Prop} (hp : post (tq_b t)) : ∀ n q w, ln q < n → tq_U bs st og kc ln r i t q → w + ln q ≤ 48 → wY_next_20 post (nI r) (nI M) fs yo yi yl yt ys yk yx n (tq_b (ln q)) (nI w) := by
  have h48 := I.1.1
  intro n
  induction n with
  | zero => intro q w h; omega
  | succ n ih =>
    intro q w h u hw
    by_cases q0 : q = 0
    · have e0 : ln q = 0 := by rw [q0]; exact I.1.2.2.2
      have t0 : t = 0 := by
        rcases u.2.2.2 with z | z
        · exact z
        · rw [e0, tq_sk0 I] at z
          omega
      rw [t0] at hp
      exact br_c (fun _ => hp) (fun _ => br_t (by rw [e0]; exact tq_m1) hp)
    · have hq := u.1
      have hl := I.2.2.2.2.2.2.1 q (by omega) (by omega)
      have hat := tq_yat Y hl.1 hl.2.1 h48 (x := tq_b (ln q)) (tq_bp hl.1)
      have hbs := (I.2.1 _ hl.1 hl.2.1).2.1
      refine br_f (nI_ge (b := 48) (by omega) (by omega)) (br_f (fun z => by have := (tq_bneg (by omega)).mp z; omega) ⟨hat.1, ?_⟩)
      refine tq_yfol I Y hr (by omega) hl.2.1 (fun _ => hl.2.2) hat.2.2.2 rfl (fun x g => ?_)
      rcases tq_bro I hr hi hT u (by omega) g with ⟨x0, b, b1, b2, bU⟩ | ⟨x1, xt⟩
      · refine br_t (by rw [x0]; exact tq_m1) ⟨hat.1, fun y ey z ez => ?_⟩
        rw [ey, ez, nI_1, hat.2.2.2, b2]
        exact ih b (w + 1) (by omega) bU (by omega)
      · refine br_f (fun z => ?_) ?_
        · have hG : x ≤ M := by
            rcases g with g | g
            · omega
            · exact g.2.1
          have := (tq_bneg (by omega)).mp z
          omega
        · rw [xt]
          exact hp
theorem tq_ynext (I : tq_PI M N og bs st kc ln dl) (Y : tq_YA M og bs st kc dl lt yo yi yl yt ys yk) {r i t : Nat} {x : Int32} (hr : r < 3) (h1 : 1 ≤ i) (hi : i ≤ N) (hk : tq_kn og kc r (ln i) = true) (hT : tq_T N ln (tq_kn og kc r) i t)
    (hx : x = tq_b (ln i)) {post : Int32 → Prop} (hp : post (tq_b t)) : wpY_next post (nI M, fs, yo, yi, yl, yt, ys, yk, yx) (nI r) x := by
  have h48 := I.1.1
  have hl := I.2.2.2.2.2.2.1 i h1 hi
  unfold wpY_next
  subst hx
  refine tq_yfol I Y (b := 0) hr hl.2.1 (Nat.zero_le _) (fun z => by omega) rfl rfl (fun x g => ?_)
  rcases tq_child I hr hi hT g with ⟨x0, xt⟩ | ⟨x1, xt⟩
  · refine br_t (by rw [x0]; exact tq_m1) ⟨ln i + 1, ?_⟩
    exact tq_ynext0 I Y hr hi hT hp (ln i + 1) i 0 (by omega) ⟨Nat.le_refl _, hk, fun m a b => by omega, xt⟩ (by omega)
  · refine br_f (fun z => ?_) ?_
    · have hG : x ≤ M := by
        rcases g with g | g
        · omega
        · exact g.2.1
      have := (tq_bneg (by omega)).mp z
      omega
    · rw [xt]
      exact hp
/-- the text that is laid out, up to place p of the line -/
def tq_TX (S : Nat → Bool) (ln : Nat → Nat) (p : Nat) (yx : Nat → Int32) : Prop := ∀ i, 1 ≤ i → i ≤ p → S i = true → yx (tq_c S (i - 1)) = nI (ln i - 1)
theorem tq_ylay0 (I : tq_PI M N og bs st kc ln dl) (Y : tq_YA M og bs st kc dl lt yo yi yl yt ys yk) {r : Nat} (hr : r < 3) {post : SY → Prop}
    (hp : ∀ yx', tq_TX (tq_S M og bs kc ln dl r) ln N yx' → post (nI M, nI (tq_c (tq_S M og bs kc ln dl r) N), yo, yi, yl, yt, ys, yk, yx')) :
    ∀ n p t w (yx : Nat → Int32), N - p < n → p ≤ N → w ≤ p → tq_T N ln (tq_kn og kc r) p t → tq_TX (tq_S M og bs kc ln dl r) ln p yx →
      wY_lay_15 post (nI r) (nI M) n (tq_b t) (nI w) (nI (tq_c (tq_S M og bs kc ln dl r) p)) yo yi yl yt ys yk yx := by
  have h48 := I.1.1
  have hN := tq_pN I
  intro n
  induction n with
  | zero => intro p t w yx h; omega
  | succ n ih =>
    intro p t w yx h hpN hw hT hX
    have hTT := hT
    have nS : ∀ m, tq_kn og kc r (ln m) = false → tq_S M og bs kc ln dl r m = false := fun m hm => by simp [tq_S, tq_se, hm]
    rcases hT with ⟨i', a1, a2, a3, a4, rfl⟩ | ⟨a4, rfl⟩
    · have hl := I.2.2.2.2.2.2.1 i' (by omega) a2
      have gap : tq_c (tq_S M og bs kc ln dl r) (i' - 1) = tq_c (tq_S M og bs kc ln dl r) p :=
        tq_cgap (i' - 1) (by omega) (fun e e1 e2 => nS e (a4 e e1 (by omega)))
      have cle := tq_cle (tq_S M og bs kc ln dl r) p
      obtain ⟨t', hT'⟩ := tq_Tex N ln (tq_kn og kc r) i'
      have gapX : ∀ m, p < m → m < i' → tq_S M og bs kc ln dl r m = true → False := fun m m1 m2 m3 => by
        rw [nS m (a4 m m1 m2)] at m3
        exact Bool.noConfusion m3
      obtain ⟨q, rfl⟩ : ∃ q, i' = q + 1 := ⟨i' - 1, by omega⟩
      rw [Nat.add_sub_cancel] at gap
      refine br_f (nI_ge (b := 48) (by omega) (by omega)) (br_f (fun z => by have := (tq_bneg (by omega)).mp z; omega) ⟨M + 1, tq_ygone0 I Y hr hl.2.1 rfl ?_ M 0 (by omega) rfl⟩)
      refine tq_br (fun g0 => ⟨vp_in_nI (by omega) (by omega), fun yx' ex fs' ef => ?_⟩) (fun g1 => ?_)
      · have s1 : tq_S M og bs kc ln dl r (q + 1) = true := by simp [tq_S, tq_se, a3, g0]
        refine tq_ynext I Y hr (by omega) a2 a3 hT' rfl ?_
        intro y ey
        rw [ey, ef, nI_1, nI_1]
        have := ih (q + 1) t' (w + 1) yx' (by omega) a2 (by omega) hT' (by
          intro i i1 i2 i3
          rw [ex, nI_clamp (by omega)]
          by_cases z : i = q + 1
          · rw [z, Nat.add_sub_cancel, gap, pk_us, tq_bp hl.1]
          · by_cases z2 : p < i
            · exact (gapX i z2 (by omega) i3).elim
            · have := tq_cpos (n := p) i1 (by omega) i3
              rw [pk_un (by omega)]
              exact hX i i1 (by omega) i3)
        rw [tq_cT s1, gap] at this
        exact this
      · have s0 : tq_S M og bs kc ln dl r (q + 1) = false := by simp [tq_S, tq_se, g1]
        refine tq_ynext I Y hr (by omega) a2 a3 hT' rfl ?_
        intro y ey
        rw [ey, nI_1]
        have := ih (q + 1) t' (w + 1) yx (by omega) a2 (by omega) hT' (by
          intro i i1 i2 i3
          by_cases z : i = q + 1
          · rw [z, s0] at i3
            exact Bool.noConfusion i3
          · by_cases z2 : p < i
            · exact (gapX i z2 (by omega) i3).elim
            · exact hX i i1 (by omega) i3)
        rw [tq_cF s0, gap] at this
        exact this
    · have gap : tq_c (tq_S M og bs kc ln dl r) N = tq_c (tq_S M og bs kc ln dl r) p :=
        tq_cgap N hpN (fun e e1 e2 => nS e (a4 e e1 e2))
      have fin := hp yx (by
        intro i i1 i2 i3
        by_cases z2 : p < i
        · rw [nS i (a4 i z2 i2)] at i3
          exact Bool.noConfusion i3
        · exact hX i i1 (by omega) i3)
      rw [gap] at fin
      exact br_c (fun _ => fin) (fun _ => br_t tq_m1 fin)
theorem tq_ylay (I : tq_PI M N og bs st kc ln dl) (Y : tq_YA M og bs st kc dl lt yo yi yl yt ys yk) {r : Nat} (hr : r < 3) {post : SY → Prop}
    (hp : ∀ yx', tq_TX (tq_S M og bs kc ln dl r) ln N yx' → post (nI M, nI (tq_c (tq_S M og bs kc ln dl r) N), yo, yi, yl, yt, ys, yk, yx')) :
    wpY_lay post (nI M, fs, yo, yi, yl, yt, ys, yk, yx) (nI r) := by
  have l0 := I.1.2.2.2
  unfold wpY_lay
  obtain ⟨t, hT⟩ := tq_Tex N ln (tq_kn og kc r) 0
  refine tq_yfol I Y (a := 0) (b := 0) hr (Nat.zero_le _) (Nat.zero_le _) (fun z => by omega) rfl rfl (fun x g => ?_)
  rw [← l0] at g
  have e : x = t := by
    rw [l0] at g
    rw [← l0] at g
    rcases tq_child I hr (Nat.zero_le _) hT (x := x) (by rw [l0] at g ⊢; exact g) with ⟨x0, xt⟩ | ⟨_, xt⟩
    · rcases xt with z | z
      · omega
      · rw [l0, tq_sk0 I] at z
        omega
    · exact xt
  rw [e]
  exact ⟨N + 1, tq_ylay0 I Y hr hp (N + 1) 0 t 0 yx (by omega) (Nat.zero_le _) (Nat.le_refl _) hT (fun i i1 i2 => by omega)⟩
theorem tq_ymx0 (I : tq_PI M N og bs st kc ln dl) (Y : tq_YA M og bs st kc dl lt yo yi yl yt ys yk) {r : Nat} (hr : r < 3)
    {post : Int32 → Prop} (hp : ∀ m, tq_Mx M st dl (tq_kn og kc r) m → post (nI m)) : ∀ k c m, c + k = M → (∀ e, 1 ≤ e → e ≤ c → dl e = false → tq_kn og kc r e = true → st e ≤ m) →
    (m = 0 ∨ ∃ e, 1 ≤ e ∧ e ≤ M ∧ dl e = false ∧ tq_kn og kc r e = true ∧ st e = m) → wY_greatest_4 post (nI r) (nI M) fs yo yi yl yt ys yk yx (k + 1) (nI m) (nI c) := by
  have h48 := I.1.1
  intro k
  induction k with
  | zero =>
    intro c m hc ha hb
    exact br_t (nI_le (by omega) (by omega)) (hp m ⟨fun e e1 e2 e3 e4 => ha e e1 (by omega) e3 e4, hb⟩)
  | succ k ih =>
    intro c m hc ha hb
    have hm : m ≤ 48 := by
      rcases hb with z | ⟨e, e1, e2, e3, e4, e5⟩
      · omega
      · have := (I.2.1 e e1 e2).2.2.2
        omega
    have hst := (I.2.1 (c + 1) (by omega) (by omega)).2.2.2
    have hin : vp_in (nI c) 48 := vp_in_nI (by omega) (by omega)
    refine br_f (nI_ge (by omega) (by omega)) (tq_yrow I Y (e := c + 1) hr (by omega) (by omega) rfl (tq_br (fun r0 => ?_) (fun r1 => ⟨hin, ?_⟩)))
    · intro y ey
      rw [ey, nI_1]
      refine ih (c + 1) m (by omega) (fun e e1 e2 e3 e4 => ?_) hb
      by_cases w : e = c + 1
      · rw [w] at e3 e4
        rw [e3, e4] at r0
        exact Bool.noConfusion r0
      · exact ha e e1 (by omega) e3 e4
    · have hk : tq_kn og kc r (c + 1) = true ∧ dl (c + 1) = false := by
        cases h1 : tq_kn og kc r (c + 1) <;> cases h2 : dl (c + 1) <;> simp_all
      have hys := (tq_yst Y (e := c + 1) (by omega) (by omega) hk.2 h48 (x := nI c) rfl).2
      refine pk_le (st (c + 1)) m (fun z => ?_) (fun z => ⟨hin, ?_⟩) hys rfl (by omega) (by omega)
      · intro y ey
        rw [ey, nI_1]
        refine ih (c + 1) m (by omega) (fun e e1 e2 e3 e4 => ?_) hb
        by_cases w : e = c + 1
        · rw [w]
          exact z
        · exact ha e e1 (by omega) e3 e4
      · intro v ev y ey
        rw [ey, ev, nI_1, hys]
        refine ih (c + 1) (st (c + 1)) (by omega) (fun e e1 e2 e3 e4 => ?_) (Or.inr ⟨c + 1, by omega, by omega, hk.2, hk.1, rfl⟩)
        by_cases w : e = c + 1
        · rw [w]
          exact Nat.le_refl _
        · have := ha e e1 (by omega) e3 e4
          omega
theorem tq_yrow0 (I : tq_PI M N og bs st kc ln dl) (Y : tq_YA M og bs st kc dl lt yo yi yl yt ys yk) {r : Nat} (hr : r < 3)
    {post : Int32 → Prop} (hp : post (nI (tq_c (fun e => tq_kn og kc r e && !dl e) M))) : ∀ k c, c + k = M → wY_row_13 post (nI r) (nI M) fs yo yi yl yt ys yk yx (k + 1) (nI (tq_c (fun e => tq_kn og kc r e && !dl e) c)) (nI c) := by
  have h48 := I.1.1
  intro k
  induction k with
  | zero =>
    intro c hc
    refine br_t (nI_le (by omega) (by omega)) ?_
    rw [show c = M by omega]
    exact hp
  | succ k ih =>
    intro c hc
    refine br_f (nI_ge (by omega) (by omega)) (tq_yrow I Y (e := c + 1) hr (by omega) (by omega) rfl (tq_br (fun r0 => ?_) (fun r1 => ?_)))
    · intro y ey
      rw [ey, nI_1]
      have := ih (c + 1) (by omega)
      rw [tq_cF (P := fun e => tq_kn og kc r e && !dl e) r0] at this
      exact this
    · intro z ez y ey
      rw [ey, ez, nI_1, nI_1]
      have := ih (c + 1) (by omega)
      rw [tq_cT (P := fun e => tq_kn og kc r e && !dl e) r1] at this
      exact this
theorem tq_ykn0 (I : tq_PI M N og bs st kc ln dl) (Y : tq_YA M og bs st kc dl lt yo yi yl yt ys yk) {r o : Nat} (hr : r < 3) (ho : o < 3)
    {post : Int32 → Prop} (hp : post (nI (tq_c (fun e => tq_kn og kc r e && decide (og e = o)) M))) : ∀ k c, c + k = M → wY_known_21 post (nI r) (nI o) (nI M) fs yo yi yl yt ys yk yx (k + 1) (nI (tq_c (fun e => tq_kn og kc r e && decide (og e = o)) c)) (nI c) := by
  have h48 := I.1.1
  intro k
  induction k with
  | zero =>
    intro c hc
    refine br_t (nI_le (by omega) (by omega)) ?_
    rw [show c = M by omega]
    exact hp
  | succ k ih =>
    intro c hc
    have hat := tq_yat Y (e := c + 1) (by omega) (by omega) h48 (x := nI c) rfl
    have hk := tq_yk I Y (e := c + 1) (x := nI c) hr (by omega) (by omega) rfl
    have hog := (I.2.1 (c + 1) (by omega) (by omega)).1
    have no : (tq_kn og kc r (c + 1) && decide (og (c + 1) = o)) = false → ∀ y : Int32, y = nI c + 1 → wY_known_21 post (nI r) (nI o) (nI M) fs yo yi yl yt ys yk yx (k + 1) (nI (tq_c (fun e => tq_kn og kc r e && decide (og e = o)) c)) y := fun z y ey => by
      rw [ey, nI_1]
      have := ih (c + 1) (by omega)
      rw [tq_cF (P := fun e => tq_kn og kc r e && decide (og e = o)) z] at this
      exact this
    refine br_f (nI_ge (by omega) (by omega)) ⟨hk.1, tq_bx hk.2 (fun k0 => no (by simp [k0])) (fun k1 => ⟨hat.1, pk_eq (og (c + 1)) o (fun e => ?_) (fun e => no (by simp [e])) hat.2.1 rfl (by omega) (by omega)⟩)⟩
    intro z ez y ey
    rw [ey, ez, nI_1, nI_1]
    have := ih (c + 1) (by omega)
    rw [tq_cT (P := fun e => tq_kn og kc r e && decide (og e = o)) (by simp [k1, e])] at this
    exact this
end
