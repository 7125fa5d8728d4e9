/-! deliver and sync: what is known grows, nothing else changes -/
theorem tq_nuinj {og : Nat → Nat} {d e : Nat} (d1 : 1 ≤ d) (e1 : 1 ≤ e) (ho : og d = og e) (h : tq_nu og d = tq_nu og e) : d = e := by
  have key : ∀ a b : Nat, 1 ≤ a → a < b → og a = og b → tq_nu og a < tq_nu og b := by
    intro a b a1 ab hab
    unfold tq_nu
    rw [hab]
    have s := tq_cstep (P := tq_o og (og b)) (e := b) (by omega) (decide_eq_true rfl)
    have m := tq_cmono (tq_o og (og b)) (m := a) (n := b - 1) (by omega)
    omega
  rcases Nat.lt_trichotomy d e with c | c | c
  · have := key d e d1 c ho
    omega
  · exact c
  · have := key e d e1 c ho.symm
    omega
section
variable {M N : Nat} {og bs st kc ln : Nat → Nat} {dl : Nat → Bool} {lt : Nat → Int32} {xo xn xd xb xl xs xL xk : Nat → Int32} {fs : Int32} {yo yi yl yt ys yk yx : Nat → Int32}
/-- the first change of f that t does not know has the next number -/
theorem tq_first (I : tq_PI M N og bs st kc ln dl) {f t e : Nat} (ht : t < 3) (hf : f < 3) (e1 : 1 ≤ e) (eM : e ≤ M) (ho : og e = f) (hk : tq_kn og kc t e = false)
    (hb : ∀ d, 1 ≤ d → d < e → og d = f → tq_kn og kc t d = true) : tq_nu og e = kc (t * 3 + f) + 1 := by
  have a : ¬ tq_nu og e ≤ kc (t * 3 + og e) := of_decide_eq_false hk
  rw [ho] at a
  have s : tq_nu og e = tq_c (tq_o og f) (e - 1) + 1 := by
    unfold tq_nu
    rw [ho]
    exact tq_cstep e1 (decide_eq_true ho)
  by_cases z : tq_c (tq_o og f) (e - 1) ≤ kc (t * 3 + f)
  · omega
  · obtain ⟨d, d1, d2, d3, d4⟩ := tq_cex (P := tq_o og f) (n := e - 1) (q := tq_c (tq_o og f) (e - 1) - 1) (by omega)
    have od : og d = f := of_decide_eq_true d3
    have kd : tq_nu og d ≤ kc (t * 3 + og d) := of_decide_eq_true (hb d d1 (by omega) od)
    have sd : tq_nu og d = tq_c (tq_o og f) (d - 1) + 1 := by
      unfold tq_nu
      rw [od]
      exact tq_cstep d1 d3
    rw [od] at kd
    omega
def tq_kc1 (kc : Nat → Nat) (j0 : Nat) : Nat → Nat := fun j => if j = j0 then kc j + 1 else kc j
theorem tq_kn1 (I : tq_PI M N og bs st kc ln dl) {f t e : Nat} (ht : t < 3) (hf : f < 3) (e1 : 1 ≤ e) (eM : e ≤ M) (ho : og e = f) (hn : tq_nu og e = kc (t * 3 + f) + 1) {r d : Nat} (hr : r < 3) (hd : og d < 3) :
    tq_kn og (tq_kc1 kc (t * 3 + f)) r d = true ↔ tq_kn og kc r d = true ∨ (r = t ∧ d = e) := by
  unfold tq_kn tq_kc1
  by_cases c : r * 3 + og d = t * 3 + f
  · have cr : r = t := by omega
    have co : og d = f := by omega
    rw [if_pos c]
    constructor
    · intro h
      have h' := of_decide_eq_true h
      by_cases z : tq_nu og d ≤ kc (r * 3 + og d)
      · exact Or.inl (decide_eq_true z)
      · right
        refine ⟨cr, ?_⟩
        by_cases d0 : d = 0
        · subst d0
          exact absurd (Nat.zero_le _) z
        · exact tq_nuinj (by omega) e1 (co.trans ho.symm) (by rw [c] at h' z; omega)
    · intro h
      refine decide_eq_true ?_
      rcases h with h | ⟨_, h⟩
      · have := of_decide_eq_true h
        omega
      · rw [c, h]
        omega
  · rw [if_neg c]
    constructor
    · exact Or.inl
    · intro h
      rcases h with h | ⟨h1, h2⟩
      · exact h
      · exact absurd (by rw [h1, h2, ho]) c
theorem tq_PI1 (I : tq_PI M N og bs st kc ln dl) {f t e : Nat} (ht : t < 3) (hf : f < 3) (e1 : 1 ≤ e) (eM : e ≤ M) (ho : og e = f) (hk : tq_kn og kc t e = false) (hn : tq_nu og e = kc (t * 3 + f) + 1) (hb : tq_kn og kc t (bs e) = true) :
    tq_PI M N og bs st (tq_kc1 kc (t * 3 + f)) ln dl := by
  have hM : tq_nu og e ≤ tq_c (tq_o og f) M := by
    unfold tq_nu
    rw [ho]
    exact tq_cmono _ eM
  have ogb : ∀ d, d ≤ M → og d < 3 := fun d h => by
    by_cases z : d = 0
    · rw [z, I.1.2.1]
      omega
    · exact (I.2.1 d (by omega) h).1
  refine ⟨I.1, I.2.1, fun d r d1 dM hr h => ?_, fun r o hr h => ?_, fun o h => ?_, I.2.2.2.2.2⟩
  · have bd := (I.2.1 d d1 dM).2.1
    refine (tq_kn1 I ht hf e1 eM ho hn hr (ogb _ (by omega))).mpr (Or.inl ?_)
    rcases (tq_kn1 I ht hf e1 eM ho hn hr (ogb _ dM)).mp h with z | ⟨z1, z2⟩
    · exact I.2.2.1 d r d1 dM hr z
    · rw [z1, z2]
      exact hb
  · unfold tq_kc1
    have := I.2.2.2.1 r o hr h
    by_cases c : r * 3 + o = t * 3 + f
    · rw [if_pos c, c, show o = f by omega]
      omega
    · rw [if_neg c]
      exact this
  · unfold tq_kc1
    have ow := I.2.2.2.2.1 o h
    by_cases c : o * 3 + o = t * 3 + f
    · exfalso
      have e3 : o = f := by omega
      have e4 : o = t := by omega
      have a : ¬ tq_nu og e ≤ kc (t * 3 + og e) := of_decide_eq_false hk
      rw [ho, ← c, ow, e3] at a
      omega
    · rw [if_neg c]
      exact ow
theorem tq_YA1 (I : tq_PI M N og bs st kc ln dl) (Y : tq_YA M og bs st kc dl lt yo yi yl yt ys yk) {f t e : Nat} (ht : t < 3) (hf : f < 3) (e1 : 1 ≤ e) (eM : e ≤ M) (ho : og e = f) (hn : tq_nu og e = kc (t * 3 + f) + 1) :
    tq_YA M og bs st (tq_kc1 kc (t * 3 + f)) dl lt yo yi yl yt ys (upd yk (48 * t + (e - 1)) (tq_01 true)) := by
  have h48 := I.1.1
  refine ⟨Y.1, Y.2.1, fun r c hr hc => ?_⟩
  by_cases z : 48 * r + c = 48 * t + (e - 1)
  · have zr : r = t := by omega
    have zc : c + 1 = e := by omega
    rw [z, pk_us, zc, decide_eq_true (show c < M by omega), (tq_kn1 I ht hf e1 eM ho hn hr (by omega)).mpr (Or.inr ⟨zr, rfl⟩)]
    rfl
  · rw [pk_un z, Y.2.2 r c hr hc]
    by_cases w : c < M
    · have i := tq_kn1 I ht hf e1 eM ho hn (d := c + 1) hr (I.2.1 (c + 1) (by omega) (by omega)).1
      cases q : tq_kn og kc r (c + 1)
      · cases q' : tq_kn og (tq_kc1 kc (t * 3 + f)) r (c + 1)
        · rfl
        · rcases i.mp q' with v | ⟨v1, v2⟩
          · rw [q] at v
            exact Bool.noConfusion v
          · exact absurd (by rw [v1]; omega) z
      · rw [i.mpr (Or.inl q)]
    · rw [decide_eq_false w]
      rfl
theorem tq_XA1 (X : tq_XA M N og bs st kc ln dl lt xo xn xd xb xl xs xL xk) {j0 : Nat} (hj : j0 < 9) : tq_XA M N og bs st (tq_kc1 kc j0) ln dl lt xo xn xd xb xl xs xL (upd xk j0 (xk j0 + 1)) := by
  refine ⟨X.1, X.2.1, X.2.2.1, fun j h => ?_⟩
  unfold tq_kc1
  by_cases c : j = j0
  · rw [c, pk_us, if_pos rfl, X.2.2.2 j0 hj, nI_1]
  · rw [pk_un c, if_neg c]
    exact X.2.2.2 j h
/-- the component's scan for the next number -/
theorem tq_xfu0 (I : tq_PI M N og bs st kc ln dl) (X : tq_XA M N og bs st kc ln dl lt xo xn xd xb xl xs xL xk) {f q e : Nat} (hf : f < 3) (hq : q ≤ 49)
    (h1 : ∀ d, 1 ≤ d → d ≤ M → og d = f → tq_nu og d = q → e ≤ d) (h2 : 1 ≤ e → e ≤ M → og e = f ∧ tq_nu og e = q) {post : Int32 → Prop} (hn : M < e → post (-1)) (hp : e ≤ M → post (nI (e - 1))) :
    ∀ k c, c + k = M → c < e → wX_firstUnknown_16 post (nI f) (nI q) (nI M) (nI N) xo xn xd xb xl xs xL xk (k + 1) (nI c) := by
  have h48 := I.1.1
  intro k
  induction k with
  | zero =>
    intro c hc he
    exact br_t (nI_le (by omega) (by omega)) (hn (by omega))
  | succ k ih =>
    intro c hc he
    have hin : vp_in (nI c) 48 := vp_in_nI (by omega) (by omega)
    have ec : (nI c).toNatClampNeg = c := nI_clamp (by omega)
    have hX := X.1 c (by omega)
    have hog := (I.2.1 (c + 1) (by omega) (by omega)).1
    have hnu := tq_nub og (c + 1)
    refine br_f (nI_ge (by omega) (by omega)) ⟨hin, pk_eq (og (c + 1)) f (fun a => ⟨hin, pk_eq (tq_nu og (c + 1)) q (fun b => ?_) (fun b => ?_) (by rw [ec]; exact hX.2.1) rfl (by omega) (by omega)⟩) (fun a => ?_) (by rw [ec]; exact hX.1) rfl (by omega) (by omega)⟩
    · have e0 : c + 1 = e := by
        have := h1 (c + 1) (by omega) (by omega) a b
        omega
      have := hp (by omega)
      rw [← e0] at this
      exact this
    · intro y ey
      rw [ey, nI_1]
      refine ih (c + 1) (by omega) ?_
      by_cases z : c + 1 = e
      · exact absurd (z ▸ (h2 (by omega) (by omega)).2) b
      · omega
    · intro y ey
      rw [ey, nI_1]
      refine ih (c + 1) (by omega) ?_
      by_cases z : c + 1 = e
      · exact absurd (z ▸ (h2 (by omega) (by omega)).1) a
      · omega
/-- the reference's scan for the first that is unknown -/
theorem tq_ydl0 (I : tq_PI M N og bs st kc ln dl) (Y : tq_YA M og bs st kc dl lt yo yi yl yt ys yk) {f t e : Nat} (hf : f < 3) (ht : t < 3)
    (h1 : ∀ d, 1 ≤ d → d ≤ M → og d = f → tq_kn og kc t d = false → e ≤ d) (h2 : 1 ≤ e → e ≤ M → og e = f ∧ tq_kn og kc t e = false) {post : Int32 → SY → Prop} (hn : M < e → post (-1) (nI M, fs, yo, yi, yl, yt, ys, yk, yx))
    (hy : e ≤ M → tq_kn og kc t (bs e) = false → post (-2) (nI M, fs, yo, yi, yl, yt, ys, yk, yx))
    (hp : e ≤ M → tq_kn og kc t (bs e) = true → post 0 (nI M, fs, yo, yi, yl, yt, ys, upd yk (48 * t + (e - 1)) (tq_01 true), yx)) :
    ∀ k c, c + k = M → c < e → wY_deliver_18 post (nI f) (nI t) (nI M) fs yo yi yl yt ys yk yx (k + 1) (nI c) := by
  have h48 := I.1.1
  intro k
  induction k with
  | zero =>
    intro c hc he
    exact br_t (nI_le (by omega) (by omega)) (hn (by omega))
  | succ k ih =>
    intro c hc he
    have hat := tq_yat Y (e := c + 1) (by omega) (by omega) h48 (x := nI c) rfl
    have hk := tq_yk I Y (e := c + 1) (x := nI c) ht (by omega) (by omega) rfl
    have hog := (I.2.1 (c + 1) (by omega) (by omega)).1
    have hbs := (I.2.1 (c + 1) (by omega) (by omega)).2.1
    refine br_f (nI_ge (by omega) (by omega)) ⟨hat.1, pk_eq (og (c + 1)) f (fun a => ⟨hk.1, tq_bx hk.2 (fun b => ?_) (fun b => ?_)⟩) (fun a => ?_) hat.2.1 rfl (by omega) (by omega)⟩
    · have e0 : c + 1 = e := by
        have := h1 (c + 1) (by omega) (by omega) a b
        omega
      subst e0
      have fin : tq_kn og kc t (bs (c + 1)) = true → wY_deliver_81 post (nI t) (nI c) (nI M) fs yo yi yl yt ys yk yx := fun w => by
        refine ⟨hk.1, fun yk' ek => ?_⟩
        have := hp (by omega) w
        rw [ek, tq_bo1, tq_r48, nI_clamp (by omega)]
        exact this
      refine ⟨hat.1, tq_bl (by omega) hat.2.2.2 (fun b0 => fin (by rw [b0]; exact tq_kn0 I t)) (fun b1 => ⟨hat.1, ?_⟩)⟩
      have hkb := tq_yk I Y ht b1 (by omega) (hat.2.2.2.trans (tq_bp b1))
      exact ⟨hkb.1, tq_bx hkb.2 (fun w => hy (by omega) w) fin⟩
    · intro y ey
      rw [ey, nI_1]
      refine ih (c + 1) (by omega) ?_
      by_cases z : c + 1 = e
      · rw [z, (h2 (by omega) (by omega)).2] at b
        exact Bool.noConfusion b
      · omega
    · intro y ey
      rw [ey, nI_1]
      refine ih (c + 1) (by omega) ?_
      by_cases z : c + 1 = e
      · exact absurd (z ▸ (h2 (by omega) (by omega)).1) a
      · omega
/-- the first of f's changes that t lacks, or M + 1 -/
theorem tq_lack (M : Nat) (og kc : Nat → Nat) (f t : Nat) : ∃ e, 1 ≤ e ∧ (∀ d, 1 ≤ d → d ≤ M → og d = f → tq_kn og kc t d = false → e ≤ d) ∧ (1 ≤ e → e ≤ M → og e = f ∧ tq_kn og kc t e = false) := by
  by_cases z : ∃ e, 1 ≤ e ∧ e ≤ M ∧ og e = f ∧ tq_kn og kc t e = false
  · obtain ⟨e, ⟨e1, eM, eo, ek⟩, h⟩ := pk_least _ z
    refine ⟨e, e1, fun d d1 dM dO dk => ?_, fun _ _ => ⟨eo, ek⟩⟩
    by_cases w : d < e
    · exact absurd ⟨d1, dM, dO, dk⟩ (h d w)
    · omega
  · refine ⟨M + 1, by omega, fun d d1 dM dO dk => absurd ⟨d, d1, dM, dO, dk⟩ z, fun _ h => by omega⟩
end
theorem i_vc_deliver {k : Nat} {u : SX} {v : SY} (I : i_Rel k u v) (hk : k + 4 ≤ 2048) (v1 : Int32) (v2 : Int32) : wpX_deliver (fun r u' => wpY_deliver (fun r' v' => r' = r ∧ i_Rel (k + 4) u' v') v v1 v2) u v1 v2 := by
  obtain ⟨M, N, og, bs, st, kc, ln, dl, lt, xo, xn, xd, xb, xl, xs, xL, xk, fs, yo, yi, yl, yt, ys, yk, yx, P, X, Y, rfl, rfl⟩ := I
  unfold wpX_deliver
  rcases tq_rep v1 with ⟨f, hf, rfl⟩ | ⟨hX, hY⟩
  · refine tq_repX hf (br_f tq_10 ?_)
    rcases tq_rep v2 with ⟨t, ht, rfl⟩ | ⟨hX, hY⟩
    · refine tq_repX ht (br_f tq_10 ?_)
      have h48 := P.1.1
      obtain ⟨e, e1, hl1, hl2⟩ := tq_lack M og kc f t
      have hkc := tq_kcb P ht hf
      have hnum : e ≤ M → tq_nu og e = kc (t * 3 + f) + 1 := fun eM =>
        tq_first P ht hf e1 eM (hl2 e1 eM).1 (hl2 e1 eM).2 (fun d d1 dE dO => by
          cases q : tq_kn og kc t d
          · have := hl1 d d1 (by omega) dO q
            omega
          · rfl)
      have hX1 : ∀ d, 1 ≤ d → d ≤ M → og d = f → tq_nu og d = kc (t * 3 + f) + 1 → e ≤ d := fun d d1 dM dO dn =>
        hl1 d d1 dM dO (decide_eq_false (by rw [dO]; omega))
      -- the reference, whatever the answer
      have Yrun : ∀ post : Int32 → SY → Prop, (M < e → post (-1) (nI M, fs, yo, yi, yl, yt, ys, yk, yx)) → (e ≤ M → tq_kn og kc t (bs e) = false → post (-2) (nI M, fs, yo, yi, yl, yt, ys, yk, yx)) →
          (e ≤ M → tq_kn og kc t (bs e) = true → post 0 (nI M, fs, yo, yi, yl, yt, ys, upd yk (48 * t + (e - 1)) (tq_01 true), yx)) → wpY_deliver post (nI M, fs, yo, yi, yl, yt, ys, yk, yx) (nI f) (nI t) := by
        intro post a b c
        unfold wpY_deliver
        exact tq_repY hf (br_t rfl (tq_repY ht (br_t rfl ⟨M + 1, tq_ydl0 P Y hf ht hl1 hl2 a b c M 0 (by omega) (by omega)⟩)))
      have hidx : nI t * 3 + nI f = nI (t * 3 + f) := tq_r3
      have hin9 : vp_in (nI t * 3 + nI f) 9 := by rw [hidx]; exact vp_in_nI (by omega) (by omega)
      have hcl : (nI t * 3 + nI f).toNatClampNeg = t * 3 + f := by rw [hidx]; exact nI_clamp (by omega)
      refine ⟨hin9, fun y ey => ?_⟩
      rw [hcl, X.2.2.2 _ (by omega), nI_1] at ey
      rw [ey]
      refine ⟨M + 1, tq_xfu0 P X hf (by omega) hX1 (fun a b => ⟨(hl2 a b).1, hnum b⟩) (fun ov => ?_) (fun eM => ?_) M 0 (by omega) (by omega)⟩
      · exact br_t rfl (Yrun _ (fun _ => ⟨rfl, tq_mk _ P X Y _ _⟩) (fun w => by omega) (fun w => by omega))
      · have hE := hl2 e1 eM
        have hin : vp_in (nI (e - 1)) 48 := vp_in_nI (by omega) (by omega)
        have hbs := (P.2.1 e e1 eM).2.1
        have hxb : xb (nI (e - 1)).toNatClampNeg = tq_b (bs e) := by
          rw [nI_clamp (by omega)]
          have := (X.1 (e - 1) (by omega)).2.2.2
          rw [Nat.sub_add_cancel e1] at this
          exact this
        have fin : tq_kn og kc t (bs e) = true → wX_deliver_57 (fun r u' => wpY_deliver (fun r' v' => r' = r ∧ i_Rel (k + 4) u' v') (nI M, fs, yo, yi, yl, yt, ys, yk, yx) (nI f) (nI t)) (nI f) (nI t) (nI M) (nI N) xo xn xd xb xl xs xL xk := fun w => by
          refine ⟨hin9, hin9, fun xk' ek => ?_⟩
          rw [hcl] at ek
          rw [ek]
          exact Yrun _ (fun z => by omega) (fun _ z => by rw [w] at z; exact Bool.noConfusion z)
            (fun _ _ => ⟨rfl, tq_mk _ (tq_PI1 P ht hf e1 eM hE.1 hE.2 (hnum eM) w) (tq_XA1 X (by omega)) (tq_YA1 P Y ht hf e1 eM hE.1 (hnum eM)) _ _⟩)
        refine br_f (fun z => tq_neg tq_m1 (e - 1) (by omega) z.symm) ⟨hin, fun b eb => ?_⟩
        rw [hxb] at eb
        refine tq_be (d := bs e) (e := 0) (by omega) (by omega) eb rfl (fun b0 => fin (by rw [b0]; exact tq_kn0 P t)) (fun b1 => ?_)
        refine tq_xknows P X ht (e := bs e) (by omega) (by omega) (eb.trans (tq_bp (by omega))) (tq_br (fun w => ?_) fin)
        exact Yrun _ (fun z => by omega) (fun _ _ => ⟨rfl, tq_mk _ P X Y _ _⟩) (fun _ z => by rw [w] at z; exact Bool.noConfusion z)
    · refine hX _ (br_t rfl ?_)
      unfold wpY_deliver
      exact tq_repY hf (br_t rfl (hY _ (br_f tq_10 ⟨rfl, tq_mk _ P X Y _ _⟩)))
  · refine hX _ (br_t rfl ?_)
    unfold wpY_deliver
    exact hY _ (br_f tq_10 ⟨rfl, tq_mk _ P X Y _ _⟩)
