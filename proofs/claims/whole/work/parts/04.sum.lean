section
def dr_P (f : Nat → Int32) : Nat → Int32
  | 0 => 0
  | n + 1 => dr_P f n + f n
def dr_T (tg tc va : Nat → Int32) (c : Nat → Nat) (t : Int32) (s : Nat) : Int32 := if tg s = 0 then 0 else if tc s = t then dr_P (fun i => va (4 * s + i)) (c s) else 0
def dr_F (tg tc va : Nat → Int32) (g c : Nat → Nat) (t : Int32) (s : Nat) : Int32 := if s % 4 < g (s / 4) then dr_T tg tc va c t s else 0
variable {post : Int32 → Prop} {J : Int32 → Int32 → Prop} {e b : Nat} {G V f o : Int32} {g c : Nat → Nat} {ng nc gc tg tc vc va ns ts : Nat → Int32} {t w : Int32} {r s a : Nat}
theorem dr_Fin {m : Nat} (h4 : m < 4) (hm : m < g r) : dr_F tg tc va g c t (4 * r + m) = dr_T tg tc va c t (4 * r + m) := by
  unfold dr_F
  rw [show (4 * r + m) % 4 = m by omega, show (4 * r + m) / 4 = r by omega, if_pos hm]
theorem dr_Fout {m : Nat} (h4 : m < 4) (hm : g r ≤ m) : dr_F tg tc va g c t (4 * r + m) = 0 := by
  unfold dr_F
  rw [show (4 * r + m) % 4 = m by omega, show (4 * r + m) / 4 = r by omega, if_neg (by omega)]
theorem dr_skip (h4 : g r ≤ 4) : ∀ d : Nat, g r + d ≤ 4 → dr_P (dr_F tg tc va g c t) (4 * r + (g r + d)) = dr_P (dr_F tg tc va g c t) (4 * r + g r) := by
  intro d
  induction d with
  | zero => intro _; rfl
  | succ d ih =>
    intro hd
    show dr_P (dr_F tg tc va g c t) (4 * r + (g r + d)) + dr_F tg tc va g c t (4 * r + (g r + d)) = _
    rw [ih (by omega), dr_Fout (by omega) (by omega), Int32.add_zero]
theorem dr_next (h4 : g r ≤ 4) : dr_P (dr_F tg tc va g c t) (4 * (r + 1)) = dr_P (dr_F tg tc va g c t) (4 * r + g r) := by
  rw [← dr_skip h4 (4 - g r) (by omega)]
  exact congrArg _ (by omega)
theorem dr_xs (hs : s < 48) (hc : ∀ j, vc j = nI (c j) ∧ c j ≤ 4) (H : post (dr_P (fun i => va (4 * s + i)) (c s))) : ∀ d i : Nat, i + d = c s → wX_sumOfGroup_4 post (nI s) f o G V ng nc gc tg tc vc va (d + 1) (dr_P (fun i => va (4 * s + i)) i) (nI i) := by
  intro d
  have c4 := (hc s).2
  have hi : vp_in (nI s) 48 := vp_in_nI hs (by decide)
  induction d with
  | zero =>
    intro i hd
    obtain rfl : i = c s := by omega
    unfold wX_sumOfGroup_4
    rw [nI_clamp (n := s) (by omega), (hc s).1]
    exact ⟨hi, br_t (nI_le (Nat.le_refl _) (by omega)) H⟩
  | succ d ih =>
    intro i hd
    unfold wX_sumOfGroup_4
    rw [nI_clamp (n := s) (by omega), (hc s).1]
    refine ⟨hi, br_f (nI_ge (by omega) (by omega)) (dr_vs ⟨vp_in_nI (by omega) (by decide), nm_r (e' := dr_P (fun i => va (4 * s + i)) (i + 1)) ?_ (nm_r (nI_1 i) (ih (i + 1) (by omega)))⟩)⟩
    rw [nI_clamp (by omega)]
    rfl
theorem dr_xsg (hs : s < 48) (hc : ∀ j, vc j = nI (c j) ∧ c j ≤ 4) (H : post (dr_P (fun i => va (4 * s + i)) (c s))) : wpX_sumOfGroup post (f, o, G, V, ng, nc, gc, tg, tc, vc, va) (nI s) := by
  unfold wpX_sumOfGroup
  dsimp only
  exact ⟨c s + 1, dr_xs hs hc H (c s) 0 (by omega)⟩
theorem dr_x15 (hr : r < 12) (hg : ∀ j, gc j = nI (g j) ∧ g j ≤ 4) (hc : ∀ j, vc j = nI (c j) ∧ c j ≤ 4) (H : J (dr_P (dr_F tg tc va g c t) (4 * r + g r)) (nI (r + 1))) : ∀ (d m : Nat) (x : Int32), m + d = g r → x = dr_P (dr_F tg tc va g c t) (4 * r + m) → wX_sumByTag_15 post J t (nI r) f o G V ng nc gc tg tc vc va (d + 1) x (nI m) := by
  intro d
  have g4 := (hg r).2
  have hi : vp_in (nI r) 12 := vp_in_nI hr (by decide)
  induction d with
  | zero =>
    intro m x hd hx
    obtain rfl : m = g r := by omega
    unfold wX_sumByTag_15
    rw [nI_clamp (n := r) (by omega), (hg r).1]
    refine ⟨hi, br_t (nI_le (Nat.le_refl _) (by omega)) (nm_r (nI_1 r) ?_)⟩
    rw [hx]
    exact H
  | succ d ih =>
    intro m x hd hx
    have hs : vp_in (nI (4 * r + m)) 48 := vp_in_nI (by omega) (by decide)
    have hF : dr_P (dr_F tg tc va g c t) (4 * r + (m + 1)) = x + dr_T tg tc va c t (4 * r + m) := by
      rw [hx, ← dr_Fin (g := g) (r := r) (by omega) (by omega)]
      rfl
    unfold dr_T at hF
    unfold wX_sumByTag_15
    rw [nI_clamp (n := r) (by omega), (hg r).1]
    refine ⟨hi, br_f (nI_ge (by omega) (by omega)) (dr_gs ⟨hs, ?_⟩)⟩
    rw [nI_clamp (n := 4 * r + m) (by omega)]
    by_cases z : tg (4 * r + m) = 0
    · rw [if_pos z, Int32.add_zero] at hF
      exact br_t z (nm_r (nI_1 m) (ih (m + 1) x (by omega) hF.symm))
    · rw [if_neg z] at hF
      refine br_f z ⟨hs, ?_⟩
      by_cases q : tc (4 * r + m) = t
      · rw [if_pos q] at hF
        exact br_t q (dr_xsg (by omega) hc (nm_e (nm_r (nI_1 m) (ih (m + 1) _ (by omega) hF.symm))))
      · rw [if_neg q, Int32.add_zero] at hF
        exact br_f q (nm_r (nI_1 m) (ih (m + 1) x (by omega) hF.symm))
theorem dr_x4 (he : e ≤ 12) (hg : ∀ j, gc j = nI (g j) ∧ g j ≤ 4) (hc : ∀ j, vc j = nI (c j) ∧ c j ≤ 4) (H : post (dr_P (dr_F tg tc va g c t) (4 * e))) : ∀ (d r : Nat) (x : Int32), r + d = e → x = dr_P (dr_F tg tc va g c t) (4 * r) → wX_sumByTag_4 post t (nI e) o G V ng nc gc tg tc vc va (d + 1) x (nI r) := by
  intro d
  induction d with
  | zero =>
    intro r x hd hx
    obtain rfl : r = e := by omega
    unfold wX_sumByTag_4
    refine br_t (nI_le (Nat.le_refl _) (by omega)) ?_
    rw [hx]
    exact H
  | succ d ih =>
    intro r x hd hx
    unfold wX_sumByTag_4
    exact br_f (nI_ge (by omega) (by omega)) ⟨g r + 1, dr_x15 (by omega) hg hc (ih (r + 1) _ (by omega) (dr_next (hg r).2).symm) (g r) 0 x (by omega) hx⟩
/-- the reference's inner loop where the group adds nothing -/
theorem dr_y38n (ha : a < 48) (hno : w = 0 ∨ tg a = 0 ∨ ¬ ts a = t) (x : Int32) (H : J x (nI (a + 1))) : ∀ d i : Nat, i + d = 4 → wY_sumByTag_38 post J t (nI a) w f o G V ng ns gc tg ts vc va (d + 1) x (nI i) := by
  intro d
  have hi : vp_in (nI a) 48 := vp_in_nI ha (by decide)
  induction d with
  | zero =>
    intro i hd
    obtain rfl : i = 4 := by omega
    unfold wY_sumByTag_38
    exact br_t (nI_le (a := 4) (Nat.le_refl _) (by decide)) (nm_r (nI_1 a) H)
  | succ d ih =>
    intro i hd
    unfold wY_sumByTag_38
    refine br_f (nI_ge (b := 4) (by omega) (by decide)) ?_
    rw [nI_clamp (n := a) (by omega)]
    have R := ih (i + 1) (by omega)
    by_cases z : w = 0
    · exact br_t z (nm_r (nI_1 i) R)
    · refine br_f z ⟨hi, ?_⟩
      by_cases z2 : tg a = 0
      · exact br_t z2 (nm_r (nI_1 i) R)
      · have z3 : ¬ ts a = t := (hno.resolve_left z).resolve_left z2
        exact br_f z2 ⟨hi, br_f z3 (nm_r (nI_1 i) R)⟩
/-- the reference's inner loop where the group has the tag -/
theorem dr_y38y (ha : a < 48) (hc : ∀ j, vc j = nI (c j) ∧ c j ≤ 4) (hw : ¬ w = 0) (h1 : ¬ tg a = 0) (h2 : ts a = t) (x0 : Int32) (H : J (x0 + dr_P (fun i => va (4 * a + i)) (c a)) (nI (a + 1))) : ∀ (d i : Nat) (x : Int32), i + d = 4 → x = x0 + dr_P (fun i => va (4 * a + i)) (if i ≤ c a then i else c a) → wY_sumByTag_38 post J t (nI a) w f o G V ng ns gc tg ts vc va (d + 1) x (nI i) := by
  intro d
  have c4 := (hc a).2
  have hi : vp_in (nI a) 48 := vp_in_nI ha (by decide)
  induction d with
  | zero =>
    intro i x hd hx
    obtain rfl : i = 4 := by omega
    unfold wY_sumByTag_38
    refine br_t (nI_le (a := 4) (Nat.le_refl _) (by decide)) (nm_r (nI_1 a) ?_)
    rw [hx, show (if 4 ≤ c a then 4 else c a) = c a by split <;> omega]
    exact H
  | succ d ih =>
    intro i x hd hx
    unfold wY_sumByTag_38
    refine br_f (nI_ge (b := 4) (by omega) (by decide)) (br_f hw ⟨hi, ?_⟩)
    rw [nI_clamp (n := a) (by omega), (hc a).1]
    refine br_f h1 ⟨hi, br_t h2 ⟨hi, ?_⟩⟩
    by_cases q : c a ≤ i
    · refine br_t (nI_le q (by omega)) (nm_r (nI_1 i) (ih (i + 1) x (by omega) ?_))
      rw [hx, show (if i ≤ c a then i else c a) = c a by split <;> omega, show (if i + 1 ≤ c a then i + 1 else c a) = c a by split <;> omega]
    · rw [dr_sr]
      refine br_f (nI_ge (by omega) (by omega)) ⟨vp_in_nI (by omega) (by decide), nm_e (nm_r (nI_1 i) (ih (i + 1) _ (by omega) ?_))⟩
      rw [hx, if_pos (by omega), if_pos (by omega), nI_clamp (by omega), Int32.add_assoc]
      rfl
theorem dr_y4 (hb : b ≤ 1) (he : e ≤ 12) (hg : ∀ j, gc j = nI (g j) ∧ g j ≤ 4) (hc : ∀ j, vc j = nI (c j) ∧ c j ≤ 4) (ht : ∀ j, ts j = if tg j = 0 then 0 else tc j) (H : post (dr_P (dr_F tg tc va g c t) (4 * e))) : ∀ (d a : Nat) (x : Int32), a + d = 4 * e → x = dr_P (dr_F tg tc va g c t) a → wY_sumByTag_4 post t (nI (e + b)) (nI b) G V ng ns gc tg ts vc va (d + 1) x (nI a) := by
  intro d
  induction d with
  | zero =>
    intro a x hd hx
    obtain rfl : a = 4 * e := by omega
    unfold wY_sumByTag_4
    refine dr_ye hb ?_
    rw [dr_4e]
    refine br_t (nI_le (Nat.le_refl _) (by omega)) ?_
    rw [hx]
    exact H
  | succ d ih =>
    intro a x hd hx
    have ha : a < 48 := by omega
    unfold wY_sumByTag_4
    refine dr_ye hb ?_
    rw [dr_4e, dr_d4 (i := a) (by omega), dr_r4 (by omega), nI_clamp (n := a / 4) (by omega), (hg (a / 4)).1]
    have g4 := (hg (a / 4)).2
    refine br_f (nI_ge (by omega) (by omega)) ⟨dr_40, dr_40, vp_in_nI (by omega) (by decide), ?_⟩
    have hF : dr_P (dr_F tg tc va g c t) (a + 1) = x + dr_F tg tc va g c t a := by
      rw [hx]
      rfl
    unfold dr_F at hF
    by_cases q : g (a / 4) ≤ a % 4
    · rw [if_neg (by omega), Int32.add_zero] at hF
      exact br_t (nI_le q (by omega)) ⟨5, dr_y38n ha (Or.inl rfl) x (ih (a + 1) x (by omega) hF.symm) 4 0 rfl⟩
    · rw [if_pos (by omega)] at hF
      unfold dr_T at hF
      refine br_f (nI_ge (by omega) (by omega)) ⟨5, ?_⟩
      by_cases z : tg a = 0
      · rw [if_pos z, Int32.add_zero] at hF
        exact dr_y38n ha (Or.inr (Or.inl z)) x (ih (a + 1) x (by omega) hF.symm) 4 0 rfl
      · have hta : ts a = tc a := (ht a).trans (if_neg z)
        rw [if_neg z] at hF
        by_cases z2 : tc a = t
        · rw [if_pos z2] at hF
          refine dr_y38y ha hc dr_10 z (hta.trans z2) x (ih (a + 1) _ (by omega) hF.symm) 4 0 x rfl ?_
          rw [if_pos (Nat.zero_le _)]
          exact (Int32.add_zero x).symm
        · rw [if_neg z2, Int32.add_zero] at hF
          exact dr_y38n ha (Or.inr (Or.inr (by rw [hta]; exact z2))) x (ih (a + 1) x (by omega) hF.symm) 4 0 rfl
end
section
theorem i_vc_sumByTag {k : Nat} {u : SX} {v : SY} (I : i_Rel k u v) (hk : k + 4 ≤ 2048) (v1 : Int32) : wpX_sumByTag (fun r => wpY_sumByTag (fun r' => r' = r ∧ i_Rel (k + 4) u v) v v1) u v1 := by
  have K := i_up I
  obtain ⟨e, b, G, V, g, c, ng, nc, gc, tg, tc, vc, va, ns, ts, rfl, rfl, ⟨heb, hb, hG, hV⟩, hg, hc, hn, ht⟩ := I
  have he : e ≤ 12 := by omega
  unfold wpX_sumByTag wpY_sumByTag
  dsimp only
  exact ⟨e + 1, dr_x4 he hg hc ⟨4 * e + 1, dr_y4 hb he hg hc ht ⟨rfl, K⟩ (4 * e) 0 0 (by omega) rfl⟩ e 0 0 (by omega) rfl⟩
end
