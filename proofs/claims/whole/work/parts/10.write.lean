/-! insert and delete -/
section
variable {M N : Nat} {og bs st kc ln : Nat → Nat} {dl : Nat → Bool} {lt : Nat → Int32} {xo xn xd xb xl xs xL xk : Nat → Int32} {fs : Int32} {yo yi yl yt ys yk yx : Nat → Int32}
theorem tq_Sk {r i : Nat} (h : tq_S M og bs kc ln dl r i = true) : tq_kn og kc r (ln i) = true := by
  have h' : (tq_kn og kc r (ln i) && !tq_tk M og bs kc dl r (ln i)) = true := h
  cases q : tq_kn og kc r (ln i)
  · rw [q] at h'
    exact Bool.noConfusion h'
  · rfl
theorem tq_ins49 (k : Nat) (P : tq_PI M N og bs st kc ln dl) (X : tq_XA M N og bs st kc ln dl lt xo xn xd xb xl xs xL xk) (Y : tq_YA M og bs st kc dl lt yo yi yl yt ys yk) {r j : Nat} (hr : r < 3) (hM : M < 48) (hj : j ≤ N)
    (hkb : tq_kn og kc r (ln j) = true) (l : Int32) {x : Int32} (hx : x = tq_b (ln j)) {post : Int32 → SX → Prop}
    (hp : ∀ w u', (∀ (fs : Int32) (yx : Nat → Int32) (q : Int32 → SY → Prop), (∀ v', i_Rel k u' v' → q w v') → wY_insert_53 q (nI r) l (tq_b (ln j)) (nI M) fs yo yi yl yt ys yk yx) → post w u') :
    wX_insert_49 post (nI r) l x (nI M) (nI N) xo xn xd xb xl xs xL xk := by
  have iM : vp_in (nI M) 48 := vp_in_nI hM (by omega)
  have cM : (nI M).toNatClampNeg = M := nI_clamp (by omega)
  have hN := tq_pN P
  unfold wX_insert_49
  subst hx
  refine tq_xst P X hr (fun m hm => tq_xmake P X hr hM ⟨iM, fun d ed => ⟨iM, fun L eL => ⟨iM, fun s es => ?_⟩⟩⟩)
  rw [cM, tq_bo0] at ed
  rw [cM] at eL es
  subst ed eL es
  have hmM : m ≤ M := by
    rcases hm.2 with z | ⟨e, e1, e2, e3, e4, e5⟩
    · omega
    · have := (P.2.1 e e1 e2).2.2.2
      omega
  have hs : ∀ d, 1 ≤ d → d ≤ M → dl d = false → tq_kn og kc r d = true → st d < m + 1 := fun d a b c e => by
    have := hm.1 d a b c e
    omega
  have X2 := tq_XA2 P X (r := r) (b := ln j) (s := m + 1) (z := false) (l := l) (xl' := upd xl M l) (xs' := upd xs M (nI (m + 1))) hr (fun c hc => ⟨pk_un (by omega), pk_un (by omega)⟩) (fun _ => ⟨pk_us, pk_us⟩)
  refine tq_xput (by omega) (by omega) X2 (fun i i1 iN => ?_) (fun d d1 dM => ?_) (e := M + 1) (j := j) (by omega) (Nat.le_refl _) tq_us rfl ?_ hj tq_us.symm (fun i i1 iN h => ?_) (fun p xL' p1 p2 p3 p4 X3 => ?_)
  · have := P.2.2.2.2.2.2.1 i i1 iN
    rw [tq_un (by omega)]
    exact ⟨this.1, by omega, this.2.2⟩
  · by_cases c : d = M + 1
    · rw [c, tq_us, tq_us]
      omega
    · have := P.2.1 d d1 (by omega)
      rw [tq_un c, tq_un c]
      omega
  · have := tq_lnM P hj
    rw [tq_us]
    omega
  · rw [tq_us] at h
    exact tq_lninj P iN hj h
  · have I3 := tq_PIi P (r := r) (j := j) (p := p) (s := m + 1) hr hM p1 p2 hkb (by omega) (by omega) hs (fun m' a b => by
      have := p3 m' a b
      rw [tq_skup1, tq_skup (tq_lnM P (by omega))] at this
      exact this) (by
      by_cases z : p = N
      · exact Or.inl z
      · right
        rcases p4 with w | w
        · exact absurd w z
        · rw [tq_skup1, tq_skup (tq_lnM P (by omega))] at w
          exact w)
    refine tq_xlen I3 X3 hr (hp _ _ (fun fs yx q hq => ?_))
    unfold wY_insert_53
    exact tq_ymake P Y (z := false) (b := ln j) (s := m + 1) hr hM tq_bo1 rfl (fun _ m' hm' => by rw [tq_Mxu hm' hm]) I3 (fun fs' yo' yi' yl' yt' ys' yk' yx' Y' => hq _ (tq_mk _ I3 X3 Y' _ _))
end
theorem i_vc_insert {k : Nat} {u : SX} {v : SY} (I : i_Rel k u v) (hk : k + 4 ≤ 2048) (v1 : Int32) (v2 : Int32) (v3 : Int32) : wpX_insert (fun r u' => wpY_insert (fun r' v' => r' = r ∧ i_Rel (k + 4) u' v') v v1 v2 v3) u v1 v2 v3 := by
  obtain ⟨M, N, og, bs, st, kc, ln, dl, lt, xo, xn, xd, xb, xl, xs, xL, xk, fs, yo, yi, yl, yt, ys, yk, yx, P, X, Y, rfl, rfl⟩ := I
  have h48 := P.1.1
  have hN := tq_pN P
  unfold wpX_insert
  rcases tq_rep v1 with ⟨r, hr, rfl⟩ | ⟨hX, hY⟩
  · have hC := tq_cle (tq_S M og bs kc ln dl r) N
    refine tq_repX hr (br_f tq_10 ?_)
    by_cases hM : M < 48
    · have nM : ¬ nI M = 48 := fun z => by
        have := (nI_eq (a := M) (b := 48) (by omega) (by omega)).mp z
        omega
      refine br_t (nI_lt (b := 48) hM (by omega)) ?_
      rcases pk_ix v2 (n := tq_c (tq_S M og bs kc ln dl r) N + 1) (by omega) with h | h | ⟨q, hq, rfl⟩
      · refine br_t h ?_
        unfold wpY_insert
        exact tq_repY hr (br_t rfl (tq_ylay P Y hr (fun yx' _ => br_t h ⟨rfl, tq_mk _ P X Y _ _⟩)))
      · have h0 : ¬ v2 < 0 := fun z => absurd (Int32.lt_of_le_of_lt h z) (nI_pos (by omega))
        have hn : ¬ v2 ≤ nI (tq_c (tq_S M og bs kc ln dl r) N) := fun z => absurd (Int32.le_trans h z) (nI_ge (by omega) (by omega))
        refine br_f h0 (tq_xlen P X hr (br_f hn ?_))
        unfold wpY_insert
        exact tq_repY hr (br_t rfl (tq_ylay P Y hr (fun yx' _ => br_f h0 (br_t (Int32.not_le.mp hn) ⟨rfl, tq_mk _ P X Y _ _⟩))))
      · refine br_f (nI_pos (by omega)) (tq_xlen P X hr (br_t (nI_le (by omega) (by omega)) ?_))
        by_cases q0 : q = 0
        · subst q0
          have l0 : tq_b (ln 0) = -1 := by rw [P.1.2.2.2]; rfl
          refine br_t rfl (tq_ins49 (k + 4) P X Y (j := 0) hr hM (Nat.zero_le _) (by rw [P.1.2.2.2]; exact tq_kn0 P r) v3 l0.symm (fun w u' H => ?_))
          unfold wpY_insert
          refine tq_repY hr (br_t rfl (tq_ylay P Y hr (fun yx' _ => br_f (nI_pos (by omega)) (br_f (nI_nlt (by omega) (by omega)) (br_f nM (br_t rfl ?_))))))
          have H' := H (nI (tq_c (tq_S M og bs kc ln dl r) N)) yx' (fun r' v' => r' = w ∧ i_Rel (k + 4) u' v') (fun v' hv => ⟨rfl, hv⟩)
          rw [l0] at H'
          exact H'
        · obtain ⟨i, i1, i2, i3, i4⟩ := tq_cex (P := tq_S M og bs kc ln dl r) (n := N) (q := q - 1) (by omega)
          have hl := P.2.2.2.2.2.2.1 i i1 i2
          have eq1 : nI q - 1 = nI (q - 1) := by
            obtain ⟨q', rfl⟩ : ∃ q', q = q' + 1 := ⟨q - 1, by omega⟩
            exact nI_pred q'
          refine br_f (nI_ne0 (by omega) (by omega)) (tq_xsi P X hr i1 i2 i3 (eq1.trans (by rw [i4])) (tq_ins49 (k + 4) P X Y (j := i) hr hM i2 (tq_Sk i3) v3 (tq_bp hl.1).symm (fun w u' H => ?_)))
          unfold wpY_insert
          refine tq_repY hr (br_t rfl (tq_ylay P Y hr (fun yx' tx => br_f (nI_pos (by omega)) (br_f (nI_nlt (by omega) (by omega)) (br_f nM (br_f (nI_ne0 (by omega) (by omega)) ⟨?_, ?_⟩))))))
          · rw [eq1]
            exact vp_in_nI (by omega) (by omega)
          · have et : yx' (nI q - 1).toNatClampNeg = tq_b (ln i) := by
              rw [eq1, nI_clamp (by omega), ← i4, tq_bp hl.1]
              exact tx i i1 i2 i3
            rw [et]
            exact H _ yx' _ (fun v' hv => ⟨rfl, hv⟩)
    · have eM : nI M = 48 := by rw [show M = 48 by omega]; rfl
      refine br_f (nI_nlt (b := 48) (by omega) (by omega)) ?_
      unfold wpY_insert
      exact tq_repY hr (br_t rfl (tq_ylay P Y hr (fun yx' _ => br_c (fun _ => ⟨rfl, tq_mk _ P X Y _ _⟩) (fun _ => br_c (fun _ => ⟨rfl, tq_mk _ P X Y _ _⟩) (fun _ => br_t eM ⟨rfl, tq_mk _ P X Y _ _⟩)))))
  · refine hX _ (br_t rfl ?_)
    unfold wpY_insert
    exact hY _ (br_f tq_10 ⟨rfl, tq_mk _ P X Y _ _⟩)
theorem i_vc_delete {k : Nat} {u : SX} {v : SY} (I : i_Rel k u v) (hk : k + 4 ≤ 2048) (v1 : Int32) (v2 : Int32) : wpX_delete (fun r u' => wpY_delete (fun r' v' => r' = r ∧ i_Rel (k + 4) u' v') v v1 v2) u v1 v2 := by
  obtain ⟨M, N, og, bs, st, kc, ln, dl, lt, xo, xn, xd, xb, xl, xs, xL, xk, fs, yo, yi, yl, yt, ys, yk, yx, P, X, Y, rfl, rfl⟩ := I
  have h48 := P.1.1
  have hN := tq_pN P
  unfold wpX_delete
  rcases tq_rep v1 with ⟨r, hr, rfl⟩ | ⟨hX, hY⟩
  · have hC := tq_cle (tq_S M og bs kc ln dl r) N
    refine tq_repX hr (br_f tq_10 ?_)
    by_cases hM : M < 48
    · have nM : ¬ nI M = 48 := fun z => by
        have := (nI_eq (a := M) (b := 48) (by omega) (by omega)).mp z
        omega
      have iM : vp_in (nI M) 48 := vp_in_nI hM (by omega)
      have cM : (nI M).toNatClampNeg = M := nI_clamp (by omega)
      refine br_t (nI_lt (b := 48) hM (by omega)) ?_
      rcases pk_ix v2 (n := tq_c (tq_S M og bs kc ln dl r) N) (by omega) with h | h | ⟨q, hq, rfl⟩
      · refine tq_xsn P X hr (fun j hj e => tq_neg h j (by omega) e.symm) (br_t rfl ?_)
        unfold wpY_delete
        exact tq_repY hr (br_t rfl (tq_ylay P Y hr (fun yx' _ => br_t h ⟨rfl, tq_mk _ P X Y _ _⟩)))
      · have h0 : ¬ v2 < 0 := fun z => absurd (Int32.lt_of_le_of_lt h z) (nI_pos (by omega))
        refine tq_xsn P X hr (fun j hj e => nI_ge hj (by omega) (by rw [e]; exact h)) (br_t rfl ?_)
        unfold wpY_delete
        exact tq_repY hr (br_t rfl (tq_ylay P Y hr (fun yx' _ => br_f h0 (br_t h ⟨rfl, tq_mk _ P X Y _ _⟩))))
      · obtain ⟨i, i1, i2, i3, i4⟩ := tq_cex hq
        have hl := P.2.2.2.2.2.2.1 i i1 i2
        refine tq_xsi P X hr i1 i2 i3 (by rw [i4]) (br_f (fun e => tq_neg tq_m1 (ln i - 1) (by omega) e.symm) (tq_xmake P X hr hM ⟨iM, fun d ed => ?_⟩))
        rw [cM, tq_bo1] at ed
        subst ed
        have X2 := tq_XA2 P X (r := r) (b := ln i) (s := 1) (z := true) (l := 0) (xl' := xl) (xs' := xs) hr (fun _ _ => ⟨rfl, rfl⟩) (fun h => Bool.noConfusion h)
        rw [tq_bp hl.1] at X2
        have I2 := tq_PId P (r := r) (b := ln i) hr hM hl.2.1 (tq_Sk i3)
        refine tq_xlen I2 X2 hr ?_
        unfold wpY_delete
        refine tq_repY hr (br_t rfl (tq_ylay P Y hr (fun yx' tx => br_f (nI_pos (by omega)) (br_f (nI_ge hq (by omega)) (br_f nM ⟨vp_in_nI (by omega) (by omega), ?_⟩)))))
        have et : yx' (nI q).toNatClampNeg = tq_b (ln i) := by
          rw [nI_clamp (by omega), ← i4, tq_bp hl.1]
          exact tx i i1 i2 i3
        rw [et]
        exact tq_ymake P Y (z := true) (b := ln i) (s := 1) (l := 0) hr hM tq_bo0 rfl (fun h => Bool.noConfusion h) I2 (fun fs' yo' yi' yl' yt' ys' yk' yx' Y' => ⟨rfl, tq_mk _ I2 X2 Y' _ _⟩)
    · have eM : nI M = 48 := by rw [show M = 48 by omega]; rfl
      refine br_f (nI_nlt (b := 48) (by omega) (by omega)) ?_
      unfold wpY_delete
      exact tq_repY hr (br_t rfl (tq_ylay P Y hr (fun yx' _ => br_c (fun _ => ⟨rfl, tq_mk _ P X Y _ _⟩) (fun _ => br_c (fun _ => ⟨rfl, tq_mk _ P X Y _ _⟩) (fun _ => br_t eM ⟨rfl, tq_mk _ P X Y _ _⟩)))))
  · refine hX _ (br_t rfl ?_)
    unfold wpY_delete
    exact hY _ (br_f tq_10 ⟨rfl, tq_mk _ P X Y _ _⟩)
