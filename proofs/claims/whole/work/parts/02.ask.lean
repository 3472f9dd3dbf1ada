section
variable {post : Int32 → Prop} {e b : Nat} {G V f o : Int32} {g c : Nat → Nat} {ng nc gc tg tc vc va ns ts : Nat → Int32} {i q : Int32} {j m s p : Nat}
theorem dr_gs (h : post (nI (4 * j + m))) : wpX_groupSlot post (nI j) (nI m) := by
  unfold wpX_groupSlot
  rw [dr_sl]
  exact h
theorem dr_vs (h : post (nI (4 * s + p))) : wpX_valueSlot post (nI s) (nI p) := by
  unfold wpX_valueSlot
  rw [dr_sl]
  exact h
theorem dr_xeN (h : i < 0 ∨ nI e ≤ i) (H : post 0) : wpX_isEnded post (nI e, o, G, V, ng, nc, gc, tg, tc, vc, va) i := by
  unfold wpX_isEnded
  dsimp only
  by_cases h0 : i < 0
  · exact br_t h0 H
  · exact br_f h0 (br_t (h.resolve_left h0) H)
theorem dr_xeY (hj : j < e) (he : e ≤ 12) (H : post 1) : wpX_isEnded post (nI e, o, G, V, ng, nc, gc, tg, tc, vc, va) (nI j) := by
  unfold wpX_isEnded
  dsimp only
  exact br_f (nI_pos (by omega)) (br_f (nI_ge hj (by omega)) H)
theorem dr_ye (hb : b ≤ 1) (H : post (nI e)) : wpY_ended post (nI (e + b), nI b, G, V, ng, ns, gc, tg, ts, vc, va) := by
  unfold wpY_ended
  dsimp only
  rcases (by omega : b = 0 ∨ b = 1) with rfl | rfl
  · exact br_t nI_0 H
  · refine br_f (nI_ne0 (by decide) (by decide)) ?_
    rw [nI_pred]
    exact H
theorem dr_ymN (hb : b ≤ 1) (h : i < 0 ∨ nI e ≤ i) (H : post 1) : wpY_missing post (nI (e + b), nI b, G, V, ng, ns, gc, tg, ts, vc, va) i := by
  unfold wpY_missing
  dsimp only
  by_cases h0 : i < 0
  · exact br_t h0 H
  · exact br_f h0 (dr_ye hb (br_f (Int32.not_lt.mpr (h.resolve_left h0)) H))
theorem dr_ymY (hb : b ≤ 1) (hj : j < e) (he : e ≤ 12) (H : post 0) : wpY_missing post (nI (e + b), nI b, G, V, ng, ns, gc, tg, ts, vc, va) (nI j) := by
  unfold wpY_missing
  dsimp only
  exact br_f (nI_pos (by omega)) (dr_ye hb (br_t (nI_lt hj (by omega)) H))
theorem dr_xgN1 (h : i < 0 ∨ nI e ≤ i) (H : post 0) : wpX_isGroupOfEnded post (nI e, o, G, V, ng, nc, gc, tg, tc, vc, va) i q := by
  unfold wpX_isGroupOfEnded
  dsimp only
  exact dr_xeN h (br_t rfl H)
theorem dr_xgN2 (hj : j < e) (he : e ≤ 12) (h : q < 0 ∨ gc j ≤ q) (H : post 0) : wpX_isGroupOfEnded post (nI e, o, G, V, ng, nc, gc, tg, tc, vc, va) (nI j) q := by
  unfold wpX_isGroupOfEnded
  dsimp only
  refine dr_xeY hj he (br_f dr_10 ?_)
  by_cases h0 : q < 0
  · exact br_t h0 H
  · refine br_f h0 ⟨vp_in_nI (by omega) (by decide), ?_⟩
    rw [nI_clamp (n := j) (by omega)]
    exact br_t (h.resolve_left h0) H
theorem dr_xgY (hj : j < e) (he : e ≤ 12) (hg : ∀ j, gc j = nI (g j) ∧ g j ≤ 4) (hm : m < g j) (H : post 1) : wpX_isGroupOfEnded post (nI e, o, G, V, ng, nc, gc, tg, tc, vc, va) (nI j) (nI m) := by
  unfold wpX_isGroupOfEnded
  dsimp only
  have h4 := (hg j).2
  refine dr_xeY hj he (br_f dr_10 (br_f (nI_pos (by omega)) ⟨vp_in_nI (by omega) (by decide), ?_⟩))
  rw [nI_clamp (n := j) (by omega), (hg j).1]
  exact br_f (nI_ge hm (by omega)) H
theorem dr_ynN1 (hb : b ≤ 1) (h : i < 0 ∨ nI e ≤ i) (H : post 1) : wpY_noGroup post (nI (e + b), nI b, G, V, ng, ns, gc, tg, ts, vc, va) i q := by
  unfold wpY_noGroup
  dsimp only
  exact dr_ymN hb h (br_f dr_10 H)
theorem dr_ynN2 (hb : b ≤ 1) (hj : j < e) (he : e ≤ 12) (h : q < 0 ∨ gc j ≤ q) (H : post 1) : wpY_noGroup post (nI (e + b), nI b, G, V, ng, ns, gc, tg, ts, vc, va) (nI j) q := by
  unfold wpY_noGroup
  dsimp only
  refine dr_ymY hb hj he (br_t rfl ?_)
  by_cases h0 : q < 0
  · exact br_t h0 H
  · refine br_f h0 ⟨vp_in_nI (by omega) (by decide), ?_⟩
    rw [nI_clamp (n := j) (by omega)]
    exact br_f (Int32.not_lt.mpr (h.resolve_left h0)) H
theorem dr_ynY (hb : b ≤ 1) (hj : j < e) (he : e ≤ 12) (hg : ∀ j, gc j = nI (g j) ∧ g j ≤ 4) (hm : m < g j) (H : post 0) : wpY_noGroup post (nI (e + b), nI b, G, V, ng, ns, gc, tg, ts, vc, va) (nI j) (nI m) := by
  unfold wpY_noGroup
  dsimp only
  have h4 := (hg j).2
  refine dr_ymY hb hj he (br_t rfl (br_f (nI_pos (by omega)) ⟨vp_in_nI (by omega) (by decide), ?_⟩))
  rw [nI_clamp (n := j) (by omega), (hg j).1]
  exact br_t (nI_lt hm (by omega)) H
theorem dr_c1 (i : Int32) (he : e ≤ 12) : (i < 0 ∨ nI e ≤ i) ∨ ∃ j, j < e ∧ i = nI j := by
  rcases pk_ix i (n := e) (by omega) with h | h | h
  · exact Or.inl (Or.inl h)
  · exact Or.inl (Or.inr h)
  · exact Or.inr h
theorem dr_c2 (i q : Int32) (he : e ≤ 12) (hg : ∀ j, gc j = nI (g j) ∧ g j ≤ 4) : (i < 0 ∨ nI e ≤ i) ∨ (∃ j, j < e ∧ i = nI j ∧ (q < 0 ∨ gc j ≤ q)) ∨ ∃ j m, j < e ∧ i = nI j ∧ m < g j ∧ q = nI m := by
  rcases dr_c1 (e := e) i he with h | ⟨j, hj, rfl⟩
  · exact Or.inl h
  · have h4 := (hg j).2
    rcases pk_ix q (n := g j) (by omega) with h | h | ⟨m, hm, rfl⟩
    · exact Or.inr (Or.inl ⟨j, hj, rfl, Or.inl h⟩)
    · exact Or.inr (Or.inl ⟨j, hj, rfl, Or.inr (by rw [(hg j).1]; exact h)⟩)
    · exact Or.inr (Or.inr ⟨j, m, hj, rfl, hm, rfl⟩)
end
section
theorem i_vc_groups {k : Nat} {u : SX} {v : SY} (I : i_Rel k u v) (hk : k + 4 ≤ 2048) (v1 : Int32) : wpX_groups (fun r => wpY_groups (fun r' => r' = r ∧ i_Rel (k + 4) u v) v v1) u v1 := by
  have K := i_up I
  obtain ⟨e, b, G, V, g, c, ng, nc, gc, tg, tc, vc, va, ns, ts, rfl, rfl, ⟨heb, hb, hG, hV⟩, hg, hc, hn, ht⟩ := I
  have he : e ≤ 12 := by omega
  unfold wpX_groups wpY_groups
  dsimp only
  rcases dr_c1 (e := e) v1 he with h | ⟨j, hj, rfl⟩
  · exact dr_xeN h (br_t rfl (dr_ymN hb h (br_f dr_10 ⟨rfl, K⟩)))
  · have hi : vp_in (nI j) 12 := vp_in_nI (by omega) (by decide)
    exact dr_xeY hj he (br_f dr_10 ⟨hi, dr_ymY hb hj he (br_t rfl ⟨hi, rfl, K⟩)⟩)
theorem i_vc_values {k : Nat} {u : SX} {v : SY} (I : i_Rel k u v) (hk : k + 4 ≤ 2048) (v1 : Int32) (v2 : Int32) : wpX_values (fun r => wpY_values (fun r' => r' = r ∧ i_Rel (k + 4) u v) v v1 v2) u v1 v2 := by
  have K := i_up I
  obtain ⟨e, b, G, V, g, c, ng, nc, gc, tg, tc, vc, va, ns, ts, rfl, rfl, ⟨heb, hb, hG, hV⟩, hg, hc, hn, ht⟩ := I
  have he : e ≤ 12 := by omega
  unfold wpX_values wpY_values
  dsimp only
  rcases dr_c2 (e := e) v1 v2 he hg with h | ⟨j, hj, rfl, h⟩ | ⟨j, m, hj, rfl, hm, rfl⟩
  · exact dr_xgN1 h (br_t rfl (dr_ynN1 hb h (br_f dr_10 ⟨rfl, K⟩)))
  · exact dr_xgN2 hj he h (br_t rfl (dr_ynN2 hb hj he h (br_f dr_10 ⟨rfl, K⟩)))
  · have h4 := (hg j).2
    have hi : vp_in (nI (4 * j + m)) 48 := vp_in_nI (by omega) (by decide)
    rw [dr_sr]
    exact dr_xgY hj he hg hm (br_f dr_10 (dr_gs ⟨hi, dr_ynY hb hj he hg hm (br_t rfl ⟨hi, rfl, K⟩)⟩))
theorem i_vc_valueAt {k : Nat} {u : SX} {v : SY} (I : i_Rel k u v) (hk : k + 4 ≤ 2048) (v1 : Int32) (v2 : Int32) (v3 : Int32) : wpX_valueAt (fun r => wpY_valueAt (fun r' => r' = r ∧ i_Rel (k + 4) u v) v v1 v2 v3) u v1 v2 v3 := by
  have K := i_up I
  obtain ⟨e, b, G, V, g, c, ng, nc, gc, tg, tc, vc, va, ns, ts, rfl, rfl, ⟨heb, hb, hG, hV⟩, hg, hc, hn, ht⟩ := I
  have he : e ≤ 12 := by omega
  unfold wpX_valueAt wpY_valueAt
  dsimp only
  rcases dr_c2 (e := e) v1 v2 he hg with h | ⟨j, hj, rfl, h⟩ | ⟨j, m, hj, rfl, hm, rfl⟩
  · exact dr_xgN1 h (br_t rfl (dr_ynN1 hb h (br_f dr_10 ⟨rfl, K⟩)))
  · exact dr_xgN2 hj he h (br_t rfl (dr_ynN2 hb hj he h (br_f dr_10 ⟨rfl, K⟩)))
  · have h4 := (hg j).2
    have c4 := (hc (4 * j + m)).2
    have hi : vp_in (nI (4 * j + m)) 48 := vp_in_nI (by omega) (by decide)
    rw [dr_sr]
    rcases pk_ix v3 (n := c (4 * j + m)) (by omega) with h0 | h0 | ⟨p, hp, rfl⟩
    · exact dr_xgY hj he hg hm (br_f dr_10 (dr_gs (br_t h0 (dr_ynY hb hj he hg hm (br_t rfl (br_t h0 ⟨rfl, K⟩))))))
    · by_cases h1 : v3 < 0
      · exact dr_xgY hj he hg hm (br_f dr_10 (dr_gs (br_t h1 (dr_ynY hb hj he hg hm (br_t rfl (br_t h1 ⟨rfl, K⟩))))))
      · have h2 : ¬ v3 < vc (nI (4 * j + m)).toNatClampNeg := by
          rw [nI_clamp (by omega), (hc _).1]
          exact Int32.not_lt.mpr h0
        exact dr_xgY hj he hg hm (br_f dr_10 (dr_gs (br_f h1 ⟨hi, br_f h2 (dr_ynY hb hj he hg hm (br_t rfl (br_f h1 ⟨hi, br_f h2 ⟨rfl, K⟩⟩)))⟩)))
    · have h1 : ¬ nI p < 0 := nI_pos (by omega)
      have h2 : nI p < vc (nI (4 * j + m)).toNatClampNeg := by
        rw [nI_clamp (by omega), (hc _).1]
        exact nI_lt hp (by omega)
      have hv : vp_in (nI (4 * (4 * j + m) + p)) 192 := vp_in_nI (by omega) (by decide)
      rw [dr_16]
      exact dr_xgY hj he hg hm (br_f dr_10 (dr_gs (br_f h1 ⟨hi, br_t h2 (dr_vs ⟨hv, dr_ynY hb hj he hg hm (br_t rfl (br_f h1 ⟨hi, br_t h2 ⟨hv, rfl, K⟩⟩))⟩)⟩)))
theorem i_vc_hasNote {k : Nat} {u : SX} {v : SY} (I : i_Rel k u v) (hk : k + 4 ≤ 2048) (v1 : Int32) : wpX_hasNote (fun r => wpY_hasNote (fun r' => r' = r ∧ i_Rel (k + 4) u v) v v1) u v1 := by
  have K := i_up I
  obtain ⟨e, b, G, V, g, c, ng, nc, gc, tg, tc, vc, va, ns, ts, rfl, rfl, ⟨heb, hb, hG, hV⟩, hg, hc, hn, ht⟩ := I
  have he : e ≤ 12 := by omega
  unfold wpX_hasNote wpY_hasNote
  dsimp only
  rcases dr_c1 (e := e) v1 he with h | ⟨j, hj, rfl⟩
  · exact dr_xeN h (br_t rfl (dr_ymN hb h (br_f dr_10 ⟨rfl, K⟩)))
  · have hi : vp_in (nI j) 12 := vp_in_nI (by omega) (by decide)
    by_cases z : ng (nI j).toNatClampNeg = 0
    · exact dr_xeY hj he (br_f dr_10 ⟨hi, br_t z (dr_ymY hb hj he (br_t rfl ⟨hi, br_t z ⟨rfl, K⟩⟩))⟩)
    · exact dr_xeY hj he (br_f dr_10 ⟨hi, br_f z (dr_ymY hb hj he (br_t rfl ⟨hi, br_f z ⟨rfl, K⟩⟩))⟩)
theorem i_vc_label {k : Nat} {u : SX} {v : SY} (I : i_Rel k u v) (hk : k + 4 ≤ 2048) (v1 : Int32) (v2 : Int32) : wpX_label (fun r => wpY_label (fun r' => r' = r ∧ i_Rel (k + 4) u v) v v1 v2) u v1 v2 := by
  have K := i_up I
  obtain ⟨e, b, G, V, g, c, ng, nc, gc, tg, tc, vc, va, ns, ts, rfl, rfl, ⟨heb, hb, hG, hV⟩, hg, hc, hn, ht⟩ := I
  have he : e ≤ 12 := by omega
  unfold wpX_label wpY_label
  dsimp only
  unfold wpX_noteOf wpX_tagOf
  dsimp only
  by_cases q : v2 = -1
  · refine br_t q ?_
    rcases dr_c1 (e := e) v1 he with h | ⟨j, hj, rfl⟩
    · exact dr_xeN h (br_t rfl (dr_ymN hb h (br_f dr_10 ⟨rfl, K⟩)))
    · have hi : vp_in (nI j) 12 := vp_in_nI (by omega) (by decide)
      by_cases z : ng (nI j).toNatClampNeg = 0
      · exact dr_xeY hj he (br_f dr_10 ⟨hi, br_t z (dr_ymY hb hj he (br_t rfl (br_t q ⟨hi, (hn _).trans (if_pos z), K⟩)))⟩)
      · exact dr_xeY hj he (br_f dr_10 ⟨hi, br_f z ⟨hi, dr_ymY hb hj he (br_t rfl (br_t q ⟨hi, (hn _).trans (if_neg z), K⟩))⟩⟩)
  · refine br_f q ?_
    rcases dr_c2 (e := e) v1 v2 he hg with h | ⟨j, hj, rfl, h⟩ | ⟨j, m, hj, rfl, hm, rfl⟩
    · exact dr_xgN1 h (br_t rfl (dr_ymN hb h (br_f dr_10 ⟨rfl, K⟩)))
    · exact dr_xgN2 hj he h (br_t rfl (dr_ymY hb hj he (br_t rfl (br_f q (dr_ynN2 hb hj he h (br_f dr_10 ⟨rfl, K⟩))))))
    · have h4 := (hg j).2
      have hi : vp_in (nI (4 * j + m)) 48 := vp_in_nI (by omega) (by decide)
      rw [dr_sr]
      by_cases z : tg (nI (4 * j + m)).toNatClampNeg = 0
      · exact dr_xgY hj he hg hm (br_f dr_10 (dr_gs ⟨hi, br_t z (dr_ymY hb hj he (br_t rfl (br_f q (dr_ynY hb hj he hg hm (br_t rfl ⟨hi, (ht _).trans (if_pos z), K⟩)))))⟩))
      · exact dr_xgY hj he hg hm (br_f dr_10 (dr_gs ⟨hi, br_f z ⟨hi, dr_ymY hb hj he (br_t rfl (br_f q (dr_ynY hb hj he hg hm (br_t rfl ⟨hi, (ht _).trans (if_neg z), K⟩))))⟩⟩))
end
