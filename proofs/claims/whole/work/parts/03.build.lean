section
variable {e b G V : Nat} {g c : Nat → Nat} {ng nc gc tg tc vc va ns ts : Nat → Int32} {s : Nat} {x y z : Int32}
theorem dr_OkB (h : dr_Ok e 0 G V g c ng nc gc tg tc vc ns ts) (he : e < 12) (hz : z = if x = 0 then 0 else y) : dr_Ok e 1 G V g c (upd ng e x) (upd nc e y) gc tg tc vc (upd ns e z) ts := by
  obtain ⟨⟨h1, h2, h3, h4⟩, hg, hc, hn, ht⟩ := h
  refine ⟨⟨by omega, by omega, h3, h4⟩, hg, hc, fun j => ?_, ht⟩
  by_cases q : j = e
  · subst q
    rw [pk_us, pk_us, pk_us]
    exact hz
  · rw [pk_un q, pk_un q, pk_un q]
    exact hn j
theorem dr_OkG (h : dr_Ok e b G V g c ng nc gc tg tc vc ns ts) (hG : G < 40) (hge : g e < 4) (hz : z = if x = 0 then 0 else y) : dr_Ok e b (G + 1) V (fun j => if j = e then g e + 1 else g j) c ng nc (upd gc e (nI (g e + 1))) (upd tg s x) (upd tc s y) vc ns (upd ts s z) := by
  obtain ⟨⟨h1, h2, h3, h4⟩, hg, hc, hn, ht⟩ := h
  refine ⟨⟨h1, h2, by omega, h4⟩, fun j => ?_, hc, hn, fun j => ?_⟩
  · by_cases q : j = e
    · subst q
      rw [pk_us]
      simp only [if_true]
      exact ⟨trivial, by omega⟩
    · rw [pk_un q]
      simp only [if_neg q]
      exact hg j
  · by_cases q : j = s
    · subst q
      rw [pk_us, pk_us, pk_us]
      exact hz
    · rw [pk_un q, pk_un q, pk_un q]
      exact ht j
theorem dr_OkV (h : dr_Ok e b G V g c ng nc gc tg tc vc ns ts) (hV : V < 60) (hcs : c s < 4) : dr_Ok e b G (V + 1) g (fun j => if j = s then c s + 1 else c j) ng nc gc tg tc (upd vc s (nI (c s + 1))) ns ts := by
  obtain ⟨⟨h1, h2, h3, h4⟩, hg, hc, hn, ht⟩ := h
  refine ⟨⟨h1, h2, h3, by omega⟩, hg, fun j => ?_, hn, ht⟩
  by_cases q : j = s
  · subst q
    rw [pk_us]
    simp only [if_true]
    exact ⟨trivial, by omega⟩
  · rw [pk_un q]
    simp only [if_neg q]
    exact hc j
theorem dr_OkE (h : dr_Ok e 1 G V g c ng nc gc tg tc vc ns ts) : dr_Ok (e + 1) 0 G V g c ng nc gc tg tc vc ns ts := by
  obtain ⟨⟨h1, h2, h3, h4⟩, hg, hc, hn, ht⟩ := h
  exact ⟨⟨by omega, by omega, h3, h4⟩, hg, hc, hn, ht⟩
end
section
theorem i_vc_begin {k : Nat} {u : SX} {v : SY} (I : i_Rel k u v) (hk : k + 4 ≤ 2048) (v1 : Int32) (v2 : Int32) : wpX_begin (fun r u' => wpY_begin (fun r' v' => r' = r ∧ i_Rel (k + 4) u' v') v (lw_bz v1) v2) u (lw_bz v1) v2 := by
  have K := i_up I
  obtain ⟨e, b, G, V, g, c, ng, nc, gc, tg, tc, vc, va, ns, ts, rfl, rfl, h⟩ := I
  obtain ⟨heb, hb, hG, hV⟩ := h.1
  unfold wpX_begin wpY_begin
  dsimp only
  unfold wY_begin_45
  rcases (by omega : b = 0 ∨ b = 1) with rfl | rfl
  · simp only [Nat.add_zero] at K ⊢
    by_cases he : e < 12
    · have h12 : nI e < 12 := nI_lt (b := 12) he (by decide)
      have hne : ¬ nI e = 12 := fun q => by
        have q' := (nI_eq (a := e) (b := 12) (by omega) (by decide)).mp q
        omega
      have hi : vp_in (nI e) 12 := vp_in_nI he (by decide)
      simp only [nI_clamp (show e < 2 ^ 31 by omega)]
      rcases lw_bz_01 v1 with z | z
      · rw [z]
        refine br_t nI_0 (br_t h12 ⟨hi, nm_e ⟨hi, nm_e (br_t nI_0 (br_f hne ⟨hi, nm_e (br_t rfl ⟨hi, nm_e (nm_r (nI_1 e) ⟨nI_pred e, ?_⟩)⟩)⟩))⟩⟩)
        exact ⟨e, 1, G, V, g, c, _, _, gc, tg, tc, vc, va, _, ts, rfl, rfl, dr_OkB h he (if_pos dr_b0).symm⟩
      · rw [z]
        refine br_t nI_0 (br_t h12 ⟨hi, nm_e ⟨hi, nm_e (br_t nI_0 (br_f hne ⟨hi, nm_e (br_f dr_10 ⟨hi, nm_e (nm_r (nI_1 e) ⟨nI_pred e, ?_⟩)⟩)⟩))⟩⟩)
        exact ⟨e, 1, G, V, g, c, _, _, gc, tg, tc, vc, va, _, ts, rfl, rfl, dr_OkB h he (if_neg (by rw [dr_b1]; exact dr_10)).symm⟩
    · obtain rfl : e = 12 := by omega
      exact br_t nI_0 (br_f (nI_nlt (b := 12) (Nat.le_refl _) (by decide)) (br_t nI_0 (br_t rfl ⟨by trivial, K⟩)))
  · have h1 : ¬ nI 1 = 0 := nI_ne0 (by decide) (by decide)
    exact br_f h1 (br_f h1 ⟨rfl, K⟩)
theorem i_vc_group {k : Nat} {u : SX} {v : SY} (I : i_Rel k u v) (hk : k + 4 ≤ 2048) (v1 : Int32) (v2 : Int32) : wpX_group (fun r u' => wpY_group (fun r' v' => r' = r ∧ i_Rel (k + 4) u' v') v (lw_bz v1) v2) u (lw_bz v1) v2 := by
  have K := i_up I
  obtain ⟨e, b, G, V, g, c, ng, nc, gc, tg, tc, vc, va, ns, ts, rfl, rfl, h⟩ := I
  obtain ⟨heb, hb, hG, hV⟩ := h.1
  obtain ⟨hge, hg4⟩ := h.2.1 e
  unfold wpX_group wpY_group
  dsimp only
  unfold wY_group_75
  rcases (by omega : b = 0 ∨ b = 1) with rfl | rfl
  · exact br_t nI_0 (br_t nI_0 ⟨rfl, K⟩)
  · have h1 : ¬ nI 1 = 0 := nI_ne0 (by decide) (by decide)
    have hi : vp_in (nI e) 12 := vp_in_nI (by omega) (by decide)
    simp only [nI_pred, nI_clamp (show e < 2 ^ 31 by omega), hge, nI_1]
    refine br_f h1 ⟨hi, ?_⟩
    by_cases h4 : g e = 4
    · exact br_t (nI_le (a := 4) (by omega) (by omega)) (br_f h1 ⟨hi, br_t (by rw [h4]; rfl) ⟨by trivial, K⟩⟩)
    · have hl : ¬ (4 : Int32) ≤ nI (g e) := nI_ge (b := 4) (by omega) (by decide)
      have hn4 : ¬ nI (g e) = 4 := fun q => h4 ((nI_eq (a := g e) (b := 4) (by omega) (by decide)).mp q)
      refine br_f hl ?_
      by_cases h40 : G = 40
      · subst h40
        exact br_f (nI_nlt (b := 40) (Nat.le_refl _) (by decide)) (br_f h1 ⟨hi, br_f hn4 (br_t rfl ⟨by trivial, K⟩)⟩)
      · have hG1 : nI G < 40 := nI_lt (b := 40) (by omega) (by decide)
        have hG2 : ¬ nI G = 40 := fun q => h40 ((nI_eq (a := G) (b := 40) (by omega) (by decide)).mp q)
        have hs : vp_in (nI (4 * e + g e)) 48 := vp_in_nI (by omega) (by decide)
        refine br_t hG1 ⟨hi, dr_gs ⟨hs, nm_e ⟨hs, nm_e ⟨hi, hi, nm_e (nm_e ⟨hi, br_f h1 ⟨hi, br_f hn4 (br_f hG2 (nm_e ⟨hi, nm_r (e' := nI (4 * e + g e)) ?_ ⟨hs, nm_e ?_⟩⟩))⟩⟩)⟩⟩⟩⟩
        · rw [nI_clamp (n := e) (by omega), hge, dr_sr]
        · simp only [nI_clamp (show e < 2 ^ 31 by omega), hge, nI_1]
          rcases lw_bz_01 v1 with z | z
          · rw [z]
            refine br_t rfl ⟨hs, nm_e ⟨hi, hi, nm_e (nm_e ⟨hi, rfl, ?_⟩)⟩⟩
            exact ⟨e, 1, G + 1, V, _, c, ng, nc, _, _, _, vc, va, ns, _, rfl, rfl, dr_OkG h (by omega) (by omega) (if_pos dr_b0).symm⟩
          · rw [z]
            refine br_f dr_10 ⟨hs, nm_e ⟨hi, hi, nm_e (nm_e ⟨hi, rfl, ?_⟩)⟩⟩
            exact ⟨e, 1, G + 1, V, _, c, ng, nc, _, _, _, vc, va, ns, _, rfl, rfl, dr_OkG h (by omega) (by omega) (if_neg (by rw [dr_b1]; exact dr_10)).symm⟩
theorem i_vc_value {k : Nat} {u : SX} {v : SY} (I : i_Rel k u v) (hk : k + 4 ≤ 2048) (v1 : Int32) : wpX_value (fun r u' => wpY_value (fun r' v' => r' = r ∧ i_Rel (k + 4) u' v') v v1) u v1 := by
  have K := i_up I
  obtain ⟨e, b, G, V, g, c, ng, nc, gc, tg, tc, vc, va, ns, ts, rfl, rfl, h⟩ := I
  obtain ⟨heb, hb, hG, hV⟩ := h.1
  obtain ⟨hge, hg4⟩ := h.2.1 e
  unfold wpX_value wpY_value
  dsimp only
  rcases (by omega : b = 0 ∨ b = 1) with rfl | rfl
  · exact br_t nI_0 (br_t nI_0 ⟨rfl, K⟩)
  · have h1 : ¬ nI 1 = 0 := nI_ne0 (by decide) (by decide)
    have hi : vp_in (nI e) 12 := vp_in_nI (by omega) (by decide)
    simp only [nI_pred, nI_clamp (show e < 2 ^ 31 by omega), hge, nI_1]
    refine br_f h1 ⟨hi, ?_⟩
    rcases (show g e = 0 ∨ ∃ t, g e = t + 1 from (Nat.eq_zero_or_pos (g e)).imp id (fun q => ⟨g e - 1, by omega⟩)) with h0 | ⟨t, h0⟩
    · rw [h0]
      exact br_t nI_0 (br_f h1 ⟨hi, br_t nI_0 ⟨by trivial, K⟩⟩)
    · have hn0 : ¬ nI (t + 1) = 0 := nI_ne0 (by omega) (by omega)
      rw [h0]
      refine br_f hn0 ?_
      by_cases h60 : V = 60
      · subst h60
        exact br_f (nI_nlt (b := 60) (Nat.le_refl _) (by decide)) (br_f h1 ⟨hi, br_f hn0 (br_t rfl ⟨by trivial, K⟩)⟩)
      · have hV1 : nI V < 60 := nI_lt (b := 60) (by omega) (by decide)
        have hV2 : ¬ nI V = 60 := fun q => h60 ((nI_eq (a := V) (b := 60) (by omega) (by decide)).mp q)
        have hs : vp_in (nI (4 * e + t)) 48 := vp_in_nI (by omega) (by decide)
        obtain ⟨hce, hc4⟩ := h.2.2.1 (4 * e + t)
        have ex : 4 * nI e + nI (t + 1) - 1 = nI (4 * e + t) := by
          rw [dr_sr]
          exact nI_pred _
        simp only [nI_pred, ex]
        refine br_t hV1 ⟨hi, dr_gs ⟨hs, ?_⟩⟩
        simp only [nI_clamp (show 4 * e + t < 2 ^ 31 by omega), hce, nI_1]
        by_cases h4 : c (4 * e + t) = 4
        · rw [h4]
          refine br_f (nI_nlt (b := 4) (Nat.le_refl _) (by decide)) (br_f h1 ⟨hi, br_f hn0 (br_f hV2 ⟨hi, nm_e ⟨hs, ?_⟩⟩)⟩)
          rw [nI_clamp (n := 4 * e + t) (by omega), hce, h4]
          exact br_t rfl ⟨by trivial, K⟩
        · have hl : nI (c (4 * e + t)) < 4 := nI_lt (b := 4) (by omega) (by decide)
          have hn4 : ¬ nI (c (4 * e + t)) = 4 := fun q => h4 ((nI_eq (a := c (4 * e + t)) (b := 4) (by omega) (by decide)).mp q)
          have hv : vp_in (nI (4 * (4 * e + t) + c (4 * e + t))) 192 := vp_in_nI (by omega) (by decide)
          refine br_t hl ⟨hs, dr_vs ⟨hv, nm_e ⟨hs, hs, nm_e (nm_e ⟨hs, br_f h1 ⟨hi, br_f hn0 (br_f hV2 ⟨hi, nm_e ⟨hs, ?_⟩⟩)⟩⟩)⟩⟩⟩
          simp only [nI_clamp (show 4 * e + t < 2 ^ 31 by omega), hce, nI_1, dr_sr]
          refine br_f hn4 ⟨hs, hv, nm_e ⟨hs, hs, nm_e (nm_e ⟨hs, rfl, ?_⟩)⟩⟩
          exact ⟨e, 1, G, V + 1, g, _, ng, nc, gc, tg, tc, _, _, ns, ts, rfl, rfl, dr_OkV h (by omega) (by omega)⟩
theorem i_vc_end {k : Nat} {u : SX} {v : SY} (I : i_Rel k u v) (hk : k + 4 ≤ 2048) : wpX_end (fun r u' => wpY_end (fun r' v' => r' = r ∧ i_Rel (k + 4) u' v') v) u := by
  have K := i_up I
  obtain ⟨e, b, G, V, g, c, ng, nc, gc, tg, tc, vc, va, ns, ts, rfl, rfl, h⟩ := I
  obtain ⟨heb, hb, hG, hV⟩ := h.1
  unfold wpX_end wpY_end
  dsimp only
  rcases (by omega : b = 0 ∨ b = 1) with rfl | rfl
  · exact br_t nI_0 (br_t nI_0 ⟨rfl, K⟩)
  · have h1 : ¬ nI 1 = 0 := nI_ne0 (by decide) (by decide)
    refine br_f h1 (nm_r (nI_1 e) (br_f h1 ⟨rfl, ?_⟩))
    exact ⟨e + 1, 0, G, V, g, c, ng, nc, gc, tg, tc, vc, va, ns, ts, rfl, rfl, dr_OkE h⟩
end
