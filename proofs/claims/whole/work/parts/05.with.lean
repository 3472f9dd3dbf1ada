section
variable {post : Int32 → Prop} {e b : Nat} {G V f o : Int32} {g c : Nat → Nat} {ng nc gc tg tc vc va ns ts : Nat → Int32} {lo hi : Int32} {r s : Nat}
/-- some j from i up to N has W -/
def dr_E (W : Nat → Prop) (i N : Nat) : Prop := ∃ j, i ≤ j ∧ j < N ∧ W j
theorem dr_E0 {W : Nat → Prop} {N : Nat} : ¬ dr_E W N N := fun ⟨_, h1, h2, _⟩ => by omega
theorem dr_Eh {W : Nat → Prop} {i N : Nat} (hi : i < N) (h : W i) : dr_E W i N := ⟨i, Nat.le_refl _, hi, h⟩
theorem dr_Es {W : Nat → Prop} {i N : Nat} (h : dr_E W (i + 1) N) : dr_E W i N := by
  obtain ⟨j, h1, h2, h3⟩ := h
  exact ⟨j, by omega, h2, h3⟩
theorem dr_En {W : Nat → Prop} {i N : Nat} (hn : ¬ W i) (h : ¬ dr_E W (i + 1) N) : ¬ dr_E W i N := by
  intro ⟨j, h1, h2, h3⟩
  by_cases q : j = i
  · subst q
    exact hn h3
  · exact h ⟨j, by omega, h2, h3⟩
/-- the value at place p lies within -/
def dr_hit (va : Nat → Int32) (lo hi : Int32) (p : Nat) : Prop := ¬ va p < lo ∧ ¬ hi < va p
theorem dr_xr3 (hs : s < 48) (hc : ∀ j, vc j = nI (c j) ∧ c j ≤ 4) : ∀ d i : Nat, i + d = c s → (dr_E (fun j => dr_hit va lo hi (4 * s + j)) i (c s) → post 1) → (¬ dr_E (fun j => dr_hit va lo hi (4 * s + j)) i (c s) → post 0) → wX_groupReaches_3 post (nI s) lo hi f o G V ng nc gc tg tc vc va (d + 1) (nI i) := by
  intro d
  have c4 := (hc s).2
  have hin : vp_in (nI s) 48 := vp_in_nI hs (by decide)
  induction d with
  | zero =>
    intro i hd H1 H0
    obtain rfl : i = c s := by omega
    unfold wX_groupReaches_3
    rw [nI_clamp (n := s) (by omega), (hc s).1]
    exact ⟨hin, br_t (nI_le (Nat.le_refl _) (by omega)) (H0 dr_E0)⟩
  | succ d ih =>
    intro i hd H1 H0
    have hv : vp_in (nI (4 * s + i)) 192 := vp_in_nI (by omega) (by decide)
    unfold wX_groupReaches_3
    rw [nI_clamp (n := s) (by omega), (hc s).1]
    refine ⟨hin, br_f (nI_ge (by omega) (by omega)) (dr_vs ⟨hv, ?_⟩)⟩
    rw [nI_clamp (n := 4 * s + i) (by omega)]
    by_cases z : va (4 * s + i) < lo
    · exact br_t z (nm_r (nI_1 i) (ih (i + 1) (by omega) (fun h => H1 (dr_Es h)) (fun h => H0 (dr_En (fun w => w.1 z) h))))
    · refine br_f z ⟨hv, ?_⟩
      by_cases z2 : hi < va (4 * s + i)
      · exact br_t z2 (nm_r (nI_1 i) (ih (i + 1) (by omega) (fun h => H1 (dr_Es h)) (fun h => H0 (dr_En (fun w => w.2 z2) h))))
      · exact br_f z2 (H1 (dr_Eh (by omega) ⟨z, z2⟩))
theorem dr_xgr (hs : s < 48) (hc : ∀ j, vc j = nI (c j) ∧ c j ≤ 4) (H1 : dr_E (fun j => dr_hit va lo hi (4 * s + j)) 0 (c s) → post 1) (H0 : ¬ dr_E (fun j => dr_hit va lo hi (4 * s + j)) 0 (c s) → post 0) : wpX_groupReaches post (f, o, G, V, ng, nc, gc, tg, tc, vc, va) (nI s) lo hi := by
  unfold wpX_groupReaches
  dsimp only
  exact ⟨c s + 1, dr_xr3 hs hc (c s) 0 (by omega) H1 H0⟩
def dr_WX (va : Nat → Int32) (c : Nat → Nat) (lo hi : Int32) (r m : Nat) : Prop := dr_E (fun j => dr_hit va lo hi (4 * (4 * r + m) + j)) 0 (c (4 * r + m))
theorem dr_xq3 (hr : r < 12) (hg : ∀ j, gc j = nI (g j) ∧ g j ≤ 4) (hc : ∀ j, vc j = nI (c j) ∧ c j ≤ 4) : ∀ d m : Nat, m + d = g r → (dr_E (dr_WX va c lo hi r) m (g r) → post 1) → (¬ dr_E (dr_WX va c lo hi r) m (g r) → post 0) → wX_recordReaches_3 post (nI r) lo hi f o G V ng nc gc tg tc vc va (d + 1) (nI m) := by
  intro d
  have g4 := (hg r).2
  have hin : vp_in (nI r) 12 := vp_in_nI hr (by decide)
  induction d with
  | zero =>
    intro m hd H1 H0
    obtain rfl : m = g r := by omega
    unfold wX_recordReaches_3
    rw [nI_clamp (n := r) (by omega), (hg r).1]
    exact ⟨hin, br_t (nI_le (Nat.le_refl _) (by omega)) (H0 dr_E0)⟩
  | succ d ih =>
    intro m hd H1 H0
    unfold wX_recordReaches_3
    rw [nI_clamp (n := r) (by omega), (hg r).1]
    refine ⟨hin, br_f (nI_ge (by omega) (by omega)) (dr_gs (dr_xgr (by omega) hc (fun h => ?_) (fun h => ?_)))⟩
    · exact br_f dr_10 (H1 (dr_Eh (by omega) h))
    · exact br_t rfl (nm_r (nI_1 m) (ih (m + 1) (by omega) (fun q => H1 (dr_Es q)) (fun q => H0 (dr_En h q))))
theorem dr_xrr (hr : r < 12) (hg : ∀ j, gc j = nI (g j) ∧ g j ≤ 4) (hc : ∀ j, vc j = nI (c j) ∧ c j ≤ 4) (H1 : dr_E (dr_WX va c lo hi r) 0 (g r) → post 1) (H0 : ¬ dr_E (dr_WX va c lo hi r) 0 (g r) → post 0) : wpX_recordReaches post (f, o, G, V, ng, nc, gc, tg, tc, vc, va) (nI r) lo hi := by
  unfold wpX_recordReaches
  dsimp only
  exact ⟨g r + 1, dr_xq3 hr hg hc (g r) 0 (by omega) H1 H0⟩
def dr_WY (va : Nat → Int32) (g c : Nat → Nat) (lo hi : Int32) (r i : Nat) : Prop := i / 4 < g r ∧ i % 4 < c (4 * r + i / 4) ∧ dr_hit va lo hi (16 * r + i)
theorem dr_y3 (hr : r < 12) (hg : ∀ j, gc j = nI (g j) ∧ g j ≤ 4) (hc : ∀ j, vc j = nI (c j) ∧ c j ≤ 4) : ∀ d i : Nat, i + d = 16 → (dr_E (dr_WY va g c lo hi r) i 16 → post 1) → (¬ dr_E (dr_WY va g c lo hi r) i 16 → post 0) → wY_holds_3 post (nI r) lo hi f o G V ng ns gc tg ts vc va (d + 1) (nI i) := by
  intro d
  have g4 := (hg r).2
  have hin : vp_in (nI r) 12 := vp_in_nI hr (by decide)
  induction d with
  | zero =>
    intro i hd H1 H0
    obtain rfl : i = 16 := by omega
    unfold wY_holds_3
    exact br_t (nI_le (a := 16) (Nat.le_refl _) (by decide)) (H0 dr_E0)
  | succ d ih =>
    intro i hd H1 H0
    have c4 := (hc (4 * r + i / 4)).2
    have hv : vp_in (nI (16 * r + i)) 192 := vp_in_nI (by omega) (by decide)
    have N : ¬ dr_WY va g c lo hi r i → wY_holds_3 post (nI r) lo hi f o G V ng ns gc tg ts vc va (d + 1) (nI (i + 1)) := fun w => ih (i + 1) (by omega) (fun h => H1 (dr_Es h)) (fun h => H0 (dr_En w h))
    unfold wY_holds_3
    refine br_f (nI_ge (b := 16) (by omega) (by decide)) ⟨dr_40, hin, ?_⟩
    unfold wY_holds_47 wY_holds_48
    rw [dr_d4 (i := i) (by omega), dr_r4 (by omega), dr_sr, dr_16i, nI_clamp (n := r) (by omega), nI_clamp (n := 4 * r + i / 4) (by omega), nI_clamp (n := 16 * r + i) (by omega), (hg r).1, (hc (4 * r + i / 4)).1]
    by_cases q : g r ≤ i / 4
    · exact br_t (nI_le q (by omega)) ⟨hv, nm_e (br_t rfl (nm_r (nI_1 i) (N (fun w => by have := w.1; omega))))⟩
    · refine br_f (nI_ge (by omega) (by omega)) ⟨dr_40, dr_40, vp_in_nI (by omega) (by decide), ?_⟩
      by_cases q2 : c (4 * r + i / 4) ≤ i % 4
      · exact br_t (nI_le q2 (by omega)) ⟨hv, nm_e (br_t rfl (nm_r (nI_1 i) (N (fun w => by have := w.2.1; omega))))⟩
      · refine br_f (nI_ge (by omega) (by omega)) ⟨hv, nm_e (br_f dr_10 ?_)⟩
        by_cases z : va (16 * r + i) < lo
        · exact br_t z (nm_r (nI_1 i) (N (fun w => w.2.2.1 z)))
        · by_cases z2 : hi < va (16 * r + i)
          · exact br_f z (br_t z2 (nm_r (nI_1 i) (N (fun w => w.2.2.2 z2))))
          · exact br_f z (br_f z2 (H1 (dr_Eh (by omega) ⟨by omega, by omega, z, z2⟩)))
theorem dr_yh (hr : r < 12) (hg : ∀ j, gc j = nI (g j) ∧ g j ≤ 4) (hc : ∀ j, vc j = nI (c j) ∧ c j ≤ 4) (H1 : dr_E (dr_WY va g c lo hi r) 0 16 → post 1) (H0 : ¬ dr_E (dr_WY va g c lo hi r) 0 16 → post 0) : wpY_holds post (f, o, G, V, ng, ns, gc, tg, ts, vc, va) (nI r) lo hi := by
  unfold wpY_holds
  dsimp only
  exact ⟨17, dr_y3 hr hg hc 16 0 rfl H1 H0⟩
theorem dr_xy (hg : ∀ j, gc j = nI (g j) ∧ g j ≤ 4) (hc : ∀ j, vc j = nI (c j) ∧ c j ≤ 4) : dr_E (dr_WX va c lo hi r) 0 (g r) ↔ dr_E (dr_WY va g c lo hi r) 0 16 := by
  have g4 := (hg r).2
  constructor
  · intro ⟨m, _, hm, j, _, hj, h⟩
    have c4 := (hc (4 * r + m)).2
    have e1 : (4 * m + j) / 4 = m := by omega
    have e2 : (4 * m + j) % 4 = j := by omega
    have e3 : 16 * r + (4 * m + j) = 4 * (4 * r + m) + j := by omega
    refine ⟨4 * m + j, by omega, by omega, ?_⟩
    unfold dr_WY
    rw [e1, e2, e3]
    exact ⟨hm, hj, h⟩
  · intro ⟨i, _, _, h1, h2, h3⟩
    refine ⟨i / 4, by omega, h1, i % 4, by omega, h2, ?_⟩
    show dr_hit va lo hi (4 * (4 * r + i / 4) + i % 4)
    rw [show 4 * (4 * r + i / 4) + i % 4 = 16 * r + i by omega]
    exact h3
theorem dr_rw (hb : b ≤ 1) (he : e ≤ 12) (hg : ∀ j, gc j = nI (g j) ∧ g j ≤ 4) (hc : ∀ j, vc j = nI (c j) ∧ c j ≤ 4) : ∀ (d r : Nat) (x : Int32), r + d = e → ∃ y : Int32, (∀ post : Int32 → Prop, post y → wX_recordsWith_5 post lo hi (nI e) o G V ng nc gc tg tc vc va (d + 1) x (nI r)) ∧ (∀ post : Int32 → Prop, post y → wY_recordsWith_5 post lo hi (nI (e + b)) (nI b) G V ng ns gc tg ts vc va (d + 1) x (nI r)) := by
  intro d
  induction d with
  | zero =>
    intro r x hd
    obtain rfl : r = e := by omega
    have h := nI_le (Nat.le_refl r) (show r < 2 ^ 31 by omega)
    refine ⟨x, fun post H => ?_, fun post H => ?_⟩
    · unfold wX_recordsWith_5
      exact br_t h H
    · unfold wY_recordsWith_5
      exact dr_ye hb (br_t h H)
  | succ d ih =>
    intro r x hd
    have h : ¬ nI e ≤ nI r := nI_ge (by omega) (by omega)
    by_cases q : dr_E (dr_WX va c lo hi r) 0 (g r)
    · obtain ⟨y, hX, hY⟩ := ih (r + 1) (x + 1) (by omega)
      refine ⟨y, fun post H => ?_, fun post H => ?_⟩
      · unfold wX_recordsWith_5
        exact br_f h (dr_xrr (by omega) hg hc (fun _ => br_f dr_10 (nm_e (nm_r (nI_1 r) (hX post H)))) (fun n => absurd q n))
      · unfold wY_recordsWith_5
        exact dr_ye hb (br_f h (dr_yh (by omega) hg hc (fun _ => br_f dr_10 (nm_e (nm_r (nI_1 r) (hY post H)))) (fun n => absurd ((dr_xy hg hc).mp q) n)))
    · obtain ⟨y, hX, hY⟩ := ih (r + 1) x (by omega)
      refine ⟨y, fun post H => ?_, fun post H => ?_⟩
      · unfold wX_recordsWith_5
        exact br_f h (dr_xrr (by omega) hg hc (fun n => absurd n q) (fun _ => br_t rfl (nm_r (nI_1 r) (hX post H))))
      · unfold wY_recordsWith_5
        exact dr_ye hb (br_f h (dr_yh (by omega) hg hc (fun n => absurd ((dr_xy hg hc).mpr n) q) (fun _ => br_t rfl (nm_r (nI_1 r) (hY post H)))))
end
