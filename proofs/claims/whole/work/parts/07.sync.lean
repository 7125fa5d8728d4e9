/-! sync: the greater of the two counts, origin by origin -/
def tq_kcs (kc : Nat → Nat) (f t o : Nat) : Nat → Nat := fun j => if t * 3 ≤ j ∧ j < t * 3 + o ∧ kc j < kc (f * 3 + (j - t * 3)) then kc (f * 3 + (j - t * 3)) else kc j
section
variable {M N : Nat} {og bs st kc ln : Nat → Nat} {dl : Nat → Bool} {lt : Nat → Int32} {xo xn xd xb xl xs xL xk : Nat → Int32} {fs : Int32} {yo yi yl yt ys yk yx : Nat → Int32}
theorem tq_kns (I : tq_PI M N og bs st kc ln dl) {f t r e : Nat} (hf : f < 3) (ht : t < 3) (hr : r < 3) (he : og e < 3) :
    tq_kn og (tq_kcs kc f t 3) r e = (tq_kn og kc r e || (decide (r = t) && tq_kn og kc f e)) := by
  unfold tq_kn tq_kcs
  by_cases c : r = t
  · rw [c, show t * 3 + og e - t * 3 = og e by omega, decide_eq_true (rfl : t = t), Bool.true_and]
    by_cases z : kc (t * 3 + og e) < kc (f * 3 + og e)
    · rw [if_pos ⟨by omega, by omega, z⟩]
      by_cases w : tq_nu og e ≤ kc (t * 3 + og e)
      · rw [decide_eq_true w, decide_eq_true (show tq_nu og e ≤ kc (f * 3 + og e) by omega)]
        rfl
      · rw [decide_eq_false w, Bool.false_or]
    · rw [if_neg (fun h => z h.2.2)]
      by_cases w : tq_nu og e ≤ kc (f * 3 + og e)
      · rw [decide_eq_true w, decide_eq_true (show tq_nu og e ≤ kc (t * 3 + og e) by omega)]
        rfl
      · rw [decide_eq_false w, Bool.or_false]
  · rw [if_neg (fun h => c (by omega)), decide_eq_false c, Bool.false_and, Bool.or_false]
theorem tq_PIs (I : tq_PI M N og bs st kc ln dl) {f t : Nat} (hf : f < 3) (ht : t < 3) : tq_PI M N og bs st (tq_kcs kc f t 3) ln dl := by
  have ogb : ∀ d, d ≤ M → og d < 3 := fun d h => by
    by_cases z : d = 0
    · rw [z, I.1.2.1]
      omega
    · exact (I.2.1 d (by omega) h).1
  refine ⟨I.1, I.2.1, fun d r d1 dM hr h => ?_, fun r o hr h => ?_, fun o h => ?_, I.2.2.2.2.2⟩
  · have bd := (I.2.1 d d1 dM).2.1
    rw [tq_kns I hf ht hr (ogb d dM)] at h
    rw [tq_kns I hf ht hr (ogb _ (by omega))]
    cases q : tq_kn og kc r d
    · rw [q, Bool.false_or] at h
      cases q2 : tq_kn og kc f d
      · rw [q2, Bool.and_false] at h
        exact Bool.noConfusion h
      · rw [q2, Bool.and_true] at h
        rw [I.2.2.1 d f d1 dM hf q2, h, Bool.and_self, Bool.or_true]
    · rw [I.2.2.1 d r d1 dM hr q, Bool.true_or]
  · unfold tq_kcs
    by_cases c : t * 3 ≤ r * 3 + o ∧ r * 3 + o < t * 3 + 3 ∧ kc (r * 3 + o) < kc (f * 3 + (r * 3 + o - t * 3))
    · rw [if_pos c, show r * 3 + o - t * 3 = o by omega]
      exact I.2.2.2.1 f o hf h
    · rw [if_neg c]
      exact I.2.2.2.1 r o hr h
  · unfold tq_kcs
    have ow := I.2.2.2.2.1 o h
    by_cases c : t * 3 ≤ o * 3 + o ∧ o * 3 + o < t * 3 + 3 ∧ kc (o * 3 + o) < kc (f * 3 + (o * 3 + o - t * 3))
    · exfalso
      have c3 := c.2.2
      rw [show o * 3 + o - t * 3 = o by omega] at c3
      have := I.2.2.2.1 f o hf h
      omega
    · rw [if_neg c]
      exact ow
theorem tq_xsy0 (I : tq_PI M N og bs st kc ln dl) {f t : Nat} (hf : f < 3) (ht : t < 3) {post : Int32 → SX → Prop}
    (hp : ∀ xk' : Nat → Int32, (∀ j, j < 9 → xk' j = nI (tq_kcs kc f t 3 j)) → post 0 (nI M, nI N, xo, xn, xd, xb, xl, xs, xL, xk')) :
    ∀ k o (xk : Nat → Int32), o + k = 3 → (∀ j, j < 9 → xk j = nI (tq_kcs kc f t o j)) → wX_sync_18 post (nI f) (nI t) (nI M) (nI N) (k + 1) (nI o) xo xn xd xb xl xs xL xk := by
  have h48 := I.1.1
  intro k
  induction k with
  | zero =>
    intro o xk ho hk
    rw [show o = 3 by omega] at hk ⊢
    exact br_t (nI_le (a := 3) (b := 3) (by omega) (by omega)) (hp xk hk)
  | succ k ih =>
    intro o xk ho hk
    have e1 : nI f * 3 + nI o = nI (f * 3 + o) := tq_r3
    have e2 : nI t * 3 + nI o = nI (t * 3 + o) := tq_r3
    have c1 : (nI f * 3 + nI o).toNatClampNeg = f * 3 + o := by rw [e1]; exact nI_clamp (by omega)
    have c2 : (nI t * 3 + nI o).toNatClampNeg = t * 3 + o := by rw [e2]; exact nI_clamp (by omega)
    have i1 : vp_in (nI f * 3 + nI o) 9 := by rw [e1]; exact vp_in_nI (by omega) (by omega)
    have i2 : vp_in (nI t * 3 + nI o) 9 := by rw [e2]; exact vp_in_nI (by omega) (by omega)
    have bf := tq_kcb I hf (o := o) (by omega)
    have bt := tq_kcb I ht (o := o) (by omega)
    have vf : xk (f * 3 + o) = nI (kc (f * 3 + o)) := by
      rw [hk _ (by omega)]
      unfold tq_kcs
      rw [if_neg (fun h => by omega)]
    have vt : xk (t * 3 + o) = nI (kc (t * 3 + o)) := by
      rw [hk _ (by omega)]
      unfold tq_kcs
      rw [if_neg (fun h => by omega)]
    refine br_f (nI_ge (b := 3) (by omega) (by omega)) ⟨i1, fun y ey => ⟨i2, ?_⟩⟩
    rw [c1, vf] at ey
    refine pk_le (kc (f * 3 + o)) (kc (t * 3 + o)) (fun z => ?_) (fun z => ⟨i2, fun xk' ek w ew => ?_⟩) ey (by rw [c2, vt]) (by omega) (by omega)
    · intro w ew
      rw [ew, nI_1]
      refine ih (o + 1) xk (by omega) (fun j hj => ?_)
      rw [hk j hj]
      unfold tq_kcs
      by_cases c : j = t * 3 + o
      · subst c
        rw [if_neg (fun h => by omega), if_neg (fun h => by
          have h3 := h.2.2
          rw [show t * 3 + o - t * 3 = o by omega] at h3
          omega)]
      · by_cases d : t * 3 ≤ j ∧ j < t * 3 + o ∧ kc j < kc (f * 3 + (j - t * 3))
        · rw [if_pos d, if_pos ⟨d.1, by omega, d.2.2⟩]
        · rw [if_neg d, if_neg (fun h => d ⟨h.1, by omega, h.2.2⟩)]
    · rw [ew, nI_1]
      refine ih (o + 1) xk' (by omega) (fun j hj => ?_)
      rw [ek, c2]
      by_cases c : j = t * 3 + o
      · subst c
        rw [pk_us, ey]
        unfold tq_kcs
        rw [show t * 3 + o - t * 3 = o by omega, if_pos ⟨by omega, by omega, z⟩]
      · rw [pk_un c, hk j hj]
        unfold tq_kcs
        by_cases d : t * 3 ≤ j ∧ j < t * 3 + o ∧ kc j < kc (f * 3 + (j - t * 3))
        · rw [if_pos d, if_pos ⟨d.1, by omega, d.2.2⟩]
        · rw [if_neg d, if_neg (fun h => d ⟨h.1, by omega, h.2.2⟩)]
theorem tq_ysy0 (I : tq_PI M N og bs st kc ln dl) {f t : Nat} (hf : f < 3) (ht : t < 3) {post : Int32 → SY → Prop}
    (hp : ∀ yk' : Nat → Int32, (∀ r c, r < 3 → c < 48 → yk' (48 * r + c) = tq_01 (decide (c < M) && (tq_kn og kc r (c + 1) || (decide (r = t) && tq_kn og kc f (c + 1))))) → post 0 (nI M, fs, yo, yi, yl, yt, ys, yk', yx)) :
    ∀ k c (yk : Nat → Int32), c + k = M → (∀ r d, r < 3 → d < 48 → yk (48 * r + d) = tq_01 (decide (d < M) && (tq_kn og kc r (d + 1) || (decide (r = t ∧ d < c) && tq_kn og kc f (d + 1))))) →
      wY_sync_18 post (nI f) (nI t) (nI M) fs (k + 1) (nI c) yo yi yl yt ys yk yx := by
  have h48 := I.1.1
  intro k
  induction k with
  | zero =>
    intro c yk hc hk
    refine br_t (nI_le (by omega) (by omega)) (hp yk (fun r d hr hd => ?_))
    rw [hk r d hr hd]
    by_cases z : d < M
    · rw [show decide (r = t ∧ d < c) = decide (r = t) from by simp [show d < c by omega]]
    · rw [decide_eq_false z, Bool.false_and, Bool.false_and]
  | succ k ih =>
    intro c yk hc hk
    have e1 : 48 * nI f + nI c = nI (48 * f + c) := tq_r48
    have e2 : 48 * nI t + nI c = nI (48 * t + c) := tq_r48
    have c1 : (48 * nI f + nI c).toNatClampNeg = 48 * f + c := by rw [e1]; exact nI_clamp (by omega)
    have c2 : (48 * nI t + nI c).toNatClampNeg = 48 * t + c := by rw [e2]; exact nI_clamp (by omega)
    have i1 : vp_in (48 * nI f + nI c) 144 := by rw [e1]; exact vp_in_nI (by omega) (by omega)
    have i2 : vp_in (48 * nI t + nI c) 144 := by rw [e2]; exact vp_in_nI (by omega) (by omega)
    have vf : yk (48 * nI f + nI c).toNatClampNeg = tq_01 (tq_kn og kc f (c + 1)) := by
      rw [c1, hk f c hf (by omega), decide_eq_true (show c < M by omega), decide_eq_false (show ¬ (f = t ∧ c < c) from fun h => by omega), Bool.false_and, Bool.or_false, Bool.true_and]
    have keep : ∀ r d, (r = t → d ≠ c) → decide (r = t ∧ d < c + 1) = decide (r = t ∧ d < c) := fun r d h => by
      by_cases z : r = t
      · have := h z
        by_cases w : d < c
        · rw [decide_eq_true (show r = t ∧ d < c from ⟨z, w⟩), decide_eq_true (show r = t ∧ d < c + 1 from ⟨z, by omega⟩)]
        · rw [decide_eq_false (show ¬ (r = t ∧ d < c) from fun q => w q.2), decide_eq_false (show ¬ (r = t ∧ d < c + 1) from fun q => by omega)]
      · rw [decide_eq_false (fun q => z q.1), decide_eq_false (fun q => z q.1)]
    refine br_f (nI_ge (by omega) (by omega)) ⟨i1, tq_bx vf (fun k0 => ?_) (fun k1 => ⟨i2, fun yk' ek y ey => ?_⟩)⟩
    · intro y ey
      rw [ey, nI_1]
      refine ih (c + 1) yk (by omega) (fun r d hr hd => ?_)
      rw [hk r d hr hd]
      by_cases z : d = c
      · rw [z, k0, Bool.and_false, Bool.and_false]
      · rw [keep r d (fun _ => z)]
    · rw [ey, nI_1]
      refine ih (c + 1) yk' (by omega) (fun r d hr hd => ?_)
      rw [ek, c2, tq_bo1]
      by_cases z : 48 * r + d = 48 * t + c
      · have zr : r = t := by omega
        have zd : d = c := by omega
        rw [z, pk_us, zr, zd, k1, decide_eq_true (show c < M by omega), decide_eq_true (show t = t ∧ c < c + 1 from ⟨rfl, by omega⟩), Bool.true_and, Bool.true_and, Bool.or_true]
      · rw [pk_un z, hk r d hr hd, keep r d (fun h1 h2 => z (by omega))]
end
theorem i_vc_sync {k : Nat} {u : SX} {v : SY} (I : i_Rel k u v) (hk : k + 4 ≤ 2048) (v1 : Int32) (v2 : Int32) : wpX_sync (fun r u' => wpY_sync (fun r' v' => r' = r ∧ i_Rel (k + 4) u' v') v v1 v2) u v1 v2 := by
  obtain ⟨M, N, og, bs, st, kc, ln, dl, lt, xo, xn, xd, xb, xl, xs, xL, xk, fs, yo, yi, yl, yt, ys, yk, yx, P, X, Y, rfl, rfl⟩ := I
  unfold wpX_sync
  rcases tq_rep v1 with ⟨f, hf, rfl⟩ | ⟨hX, hY⟩
  · refine tq_repX hf (br_f tq_10 ?_)
    rcases tq_rep v2 with ⟨t, ht, rfl⟩ | ⟨hX, hY⟩
    · refine tq_repX ht (br_f tq_10 ⟨4, tq_xsy0 P hf ht (fun xk' hx => ?_) 3 0 xk rfl (fun j hj => ?_)⟩)
      · unfold wpY_sync
        refine tq_repY hf (br_t rfl (tq_repY ht (br_t rfl ⟨M + 1, tq_ysy0 P hf ht (fun yk' hy => ?_) M 0 yk (by omega) (fun r d hr hd => ?_)⟩)))
        · refine ⟨rfl, tq_mk _ (tq_PIs P hf ht) ⟨X.1, X.2.1, X.2.2.1, hx⟩ ⟨Y.1, Y.2.1, fun r c hr hc => ?_⟩ _ _⟩
          rw [hy r c hr hc]
          by_cases z : c < M
          · rw [tq_kns P hf ht hr (P.2.1 (c + 1) (by omega) (by omega)).1]
          · rw [decide_eq_false z, Bool.false_and, Bool.false_and]
        · rw [Y.2.2 r d hr hd, decide_eq_false (show ¬ (r = t ∧ d < 0) from fun h => by omega), Bool.false_and, Bool.or_false]
      · rw [X.2.2.2 j hj]
        unfold tq_kcs
        rw [if_neg (fun h => by omega)]
    · refine hX _ (br_t rfl ?_)
      unfold wpY_sync
      exact tq_repY hf (br_t rfl (hY _ (br_f tq_10 ⟨rfl, tq_mk _ P X Y _ _⟩)))
  · refine hX _ (br_t rfl ?_)
    unfold wpY_sync
    exact hY _ (br_f tq_10 ⟨rfl, tq_mk _ P X Y _ _⟩)
