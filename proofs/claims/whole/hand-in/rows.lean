section
section
theorem pk_us {f : Nat → Int32} {k : Nat} {x : Int32} : upd f k x k = x := if_pos rfl
theorem pk_un {f : Nat → Int32} {k j : Nat} {x : Int32} (h : j ≠ k) : upd f k x j = f j := if_neg h
theorem pk_sub {a b : Nat} (h : b ≤ a) : nI a - nI b = nI (a - b) := by
  obtain ⟨c, rfl⟩ : ∃ c, a = c + b := ⟨a - b, by omega⟩
  rw [← nI_add, Int32.add_sub_cancel, Nat.add_sub_cancel]
theorem pk_mul (a b : Nat) : nI a * nI b = nI (a * b) := (Int32.ofNat_mul a b).symm
theorem pk_div {a d : Nat} (ha : a < 2 ^ 31) (h0 : 0 < d) (hd : d < 2 ^ 31) : nI a / nI d = nI (a / d) := by
  apply Int32.toInt_inj.mp
  rw [lg_idiv_nonneg (by rw [nI_toInt ha]; omega) (by rw [nI_toInt hd]; omega), nI_toInt ha, nI_toInt hd, nI_toInt (Nat.lt_of_le_of_lt (Nat.div_le_self a d) ha)]
  first | rfl | exact (Int.natCast_ediv _ _).symm
theorem pk_rem {a d : Nat} (ha : a < 2 ^ 31) (h0 : 0 < d) (hd : d < 2 ^ 31) : nI a - nI a / nI d * nI d = nI (a % d) := by
  rw [pk_div ha h0 hd, pk_mul, pk_sub (Nat.div_mul_le_self a d)]
  exact congrArg nI (by have := Nat.div_add_mod' a d; omega)
theorem pk_ix (x : Int32) {n : Nat} (hn : n < 2 ^ 31) : x < 0 ∨ nI n ≤ x ∨ ∃ j : Nat, j < n ∧ x = nI j := by
  by_cases h : x < 0
  · exact Or.inl h
  · obtain ⟨j, hj, rfl⟩ := nI_of h
    by_cases h2 : j < n
    · exact Or.inr (Or.inr ⟨j, h2, rfl⟩)
    · exact Or.inr (Or.inl (nI_le (by omega) hj))
theorem dr_sl (r m : Nat) : nI r * 4 + nI m = nI (4 * r + m) := by
  show nI r * nI 4 + nI m = _
  rw [pk_mul, nI_add, Nat.mul_comm]
theorem dr_sr (r m : Nat) : 4 * nI r + nI m = nI (4 * r + m) := by
  show nI 4 * nI r + nI m = _
  rw [pk_mul, nI_add]
theorem dr_4e (r : Nat) : 4 * nI r = nI (4 * r) := by
  show nI 4 * nI r = _
  rw [pk_mul]
theorem dr_16 (r m i : Nat) : 16 * nI r + 4 * nI m + nI i = nI (4 * (4 * r + m) + i) := by
  show nI 16 * nI r + nI 4 * nI m + nI i = _
  rw [pk_mul, pk_mul, nI_add, nI_add]
  exact congrArg nI (by omega)
theorem dr_16i (r i : Nat) : 16 * nI r + nI i = nI (16 * r + i) := by
  show nI 16 * nI r + nI i = _
  rw [pk_mul, nI_add]
theorem dr_d4 {i : Nat} (h : i < 2 ^ 31) : nI i / 4 = nI (i / 4) := pk_div (d := 4) h (by decide) (by decide)
theorem dr_r4 {i : Nat} (h : i < 2 ^ 31) : nI i - nI (i / 4) * 4 = nI (i % 4) := by
  rw [← dr_d4 h]
  exact pk_rem (d := 4) h (by decide) (by decide)
theorem dr_b0 : vp_nar .boolean 0 = 0 := by rfl
theorem dr_b1 : vp_nar .boolean 1 = 1 := by rfl
theorem dr_10 : ¬ (1 : Int32) = 0 := by decide
theorem dr_40 : ¬ (4 : Int32) = 0 := by decide
/-- what the two states share, beside the arrays that are the same function on both sides -/
def dr_Ok (e b G V : Nat) (g c : Nat → Nat) (ng nc gc tg tc vc ns ts : Nat → Int32) : Prop :=
  (e + b ≤ 12 ∧ b ≤ 1 ∧ G ≤ 40 ∧ V ≤ 60) ∧ (∀ j, gc j = nI (g j) ∧ g j ≤ 4) ∧ (∀ j, vc j = nI (c j) ∧ c j ≤ 4) ∧ (∀ j, ns j = if ng j = 0 then 0 else nc j) ∧ (∀ j, ts j = if tg j = 0 then 0 else tc j)
/-- the same columns; labels not given are 0 in the reference; its records count the one that is being built too -/
def i_Rel (_ : Nat) (u : SX) (v : SY) : Prop := ∃ (e b G V : Nat) (g c : Nat → Nat) (ng nc gc tg tc vc va ns ts : Nat → Int32), u = (nI e, nI b, nI G, nI V, ng, nc, gc, tg, tc, vc, va) ∧ v = (nI (e + b), nI b, nI G, nI V, ng, ns, gc, tg, ts, vc, va) ∧ dr_Ok e b G V g c ng nc gc tg tc vc ns ts
theorem i_up {k : Nat} {u : SX} {v : SY} (h : i_Rel k u v) : i_Rel (k + 4) u v := h
theorem i_vc0 : wpX_init (fun u => wpY_init (fun v => i_Rel 0 u v)) := by
  refine ⟨0, 0, 0, 0, fun _ => 0, fun _ => 0, fun _ => 0, fun _ => 0, fun _ => 0, fun _ => 0, fun _ => 0, fun _ => 0, fun _ => 0, fun _ => 0, fun _ => 0, rfl, rfl, ?_⟩
  exact ⟨by decide, fun j => ⟨rfl, Nat.zero_le 4⟩, fun j => ⟨rfl, Nat.zero_le 4⟩, fun j => (if_pos rfl).symm, fun j => (if_pos rfl).symm⟩
end
end
section
section
variable {post : Int32 → Prop} {e b : Nat} {G V f o : Int32} {g c : Nat → Nat} {ng nc gc tg tc vc va ns ts : Nat → Int32} {i q : Int32} {j m s p : Nat}
theorem dr_gs (h : post (nI (4 * j + m))) : wpX_groupSlot post (nI j) (nI m) := by
  unfold wpX_groupSlot
  rw [dr_sl]
  exact h
theorem dr_vs (h : post (nI (4 * s + p))) : wpX_valueSlot post (nI s) (nI p) := by
  unfold wpX_valueSlot
  rw [dr_sl]
  exact h
theorem dr_xeN (h : i < 0 ∨ nI e ≤ i) (H : post 0) : wpX_isEnded post (nI e, o, G, V, ng, nc, gc, tg, tc, vc, va) i := by
  unfold wpX_isEnded
  dsimp only
  by_cases h0 : i < 0
  · exact br_t h0 H
  · exact br_f h0 (br_t (h.resolve_left h0) H)
theorem dr_xeY (hj : j < e) (he : e ≤ 12) (H : post 1) : wpX_isEnded post (nI e, o, G, V, ng, nc, gc, tg, tc, vc, va) (nI j) := by
  unfold wpX_isEnded
  dsimp only
  exact br_f (nI_pos (by omega)) (br_f (nI_ge hj (by omega)) H)
theorem dr_ye (hb : b ≤ 1) (H : post (nI e)) : wpY_ended post (nI (e + b), nI b, G, V, ng, ns, gc, tg, ts, vc, va) := by
  unfold wpY_ended
  dsimp only
  rcases (by omega : b = 0 ∨ b = 1) with rfl | rfl
  · exact br_t nI_0 H
  · refine br_f (nI_ne0 (by decide) (by decide)) ?_
    rw [nI_pred]
    exact H
theorem dr_ymN (hb : b ≤ 1) (h : i < 0 ∨ nI e ≤ i) (H : post 1) : wpY_missing post (nI (e + b), nI b, G, V, ng, ns, gc, tg, ts, vc, va) i := by
  unfold wpY_missing
  dsimp only
  by_cases h0 : i < 0
  · exact br_t h0 H
  · exact br_f h0 (dr_ye hb (br_f (Int32.not_lt.mpr (h.resolve_left h0)) H))
theorem dr_ymY (hb : b ≤ 1) (hj : j < e) (he : e ≤ 12) (H : post 0) : wpY_missing post (nI (e + b), nI b, G, V, ng, ns, gc, tg, ts, vc, va) (nI j) := by
  unfold wpY_missing
  dsimp only
  exact br_f (nI_pos (by omega)) (dr_ye hb (br_t (nI_lt hj (by omega)) H))
theorem dr_xgN1 (h : i < 0 ∨ nI e ≤ i) (H : post 0) : wpX_isGroupOfEnded post (nI e, o, G, V, ng, nc, gc, tg, tc, vc, va) i q := by
  unfold wpX_isGroupOfEnded
  dsimp only
  exact dr_xeN h (br_t rfl H)
theorem dr_xgN2 (hj : j < e) (he : e ≤ 12) (h : q < 0 ∨ gc j ≤ q) (H : post 0) : wpX_isGroupOfEnded post (nI e, o, G, V, ng, nc, gc, tg, tc, vc, va) (nI j) q := by
  unfold wpX_isGroupOfEnded
  dsimp only
  refine dr_xeY hj he (br_f dr_10 ?_)
  by_cases h0 : q < 0
  · exact br_t h0 H
  · refine br_f h0 ⟨vp_in_nI (by omega) (by decide), ?_⟩
    rw [nI_clamp (n := j) (by omega)]
    exact br_t (h.resolve_left h0) H
theorem dr_xgY (hj : j < e) (he : e ≤ 12) (hg : ∀ j, gc j = nI (g j) ∧ g j ≤ 4) (hm : m < g j) (H : post 1) : wpX_isGroupOfEnded post (nI e, o, G, V, ng, nc, gc, tg, tc, vc, va) (nI j) (nI m) := by
  unfold wpX_isGroupOfEnded
  dsimp only
  have h4 := (hg j).2
  refine dr_xeY hj he (br_f dr_10 (br_f (nI_pos (by omega)) ⟨vp_in_nI (by omega) (by decide), ?_⟩))
  rw [nI_clamp (n := j) (by omega), (hg j).1]
  exact br_f (nI_ge hm (by omega)) H
theorem dr_ynN1 (hb : b ≤ 1) (h : i < 0 ∨ nI e ≤ i) (H : post 1) : wpY_noGroup post (nI (e + b), nI b, G, V, ng, ns, gc, tg, ts, vc, va) i q := by
  unfold wpY_noGroup
  dsimp only
  exact dr_ymN hb h (br_f dr_10 H)
theorem dr_ynN2 (hb : b ≤ 1) (hj : j < e) (he : e ≤ 12) (h : q < 0 ∨ gc j ≤ q) (H : post 1) : wpY_noGroup post (nI (e + b), nI b, G, V, ng, ns, gc, tg, ts, vc, va) (nI j) q := by
  unfold wpY_noGroup
  dsimp only
  refine dr_ymY hb hj he (br_t rfl ?_)
  by_cases h0 : q < 0
  · exact br_t h0 H
  · refine br_f h0 ⟨vp_in_nI (by omega) (by decide), ?_⟩
    rw [nI_clamp (n := j) (by omega)]
    exact br_f (Int32.not_lt.mpr (h.resolve_left h0)) H
theorem dr_ynY (hb : b ≤ 1) (hj : j < e) (he : e ≤ 12) (hg : ∀ j, gc j = nI (g j) ∧ g j ≤ 4) (hm : m < g j) (H : post 0) : wpY_noGroup post (nI (e + b), nI b, G, V, ng, ns, gc, tg, ts, vc, va) (nI j) (nI m) := by
  unfold wpY_noGroup
  dsimp only
  have h4 := (hg j).2
  refine dr_ymY hb hj he (br_t rfl (br_f (nI_pos (by omega)) ⟨vp_in_nI (by omega) (by decide), ?_⟩))
  rw [nI_clamp (n := j) (by omega), (hg j).1]
  exact br_t (nI_lt hm (by omega)) H
theorem dr_c1 (i : Int32) (he : e ≤ 12) : (i < 0 ∨ nI e ≤ i) ∨ ∃ j, j < e ∧ i = nI j := by
  rcases pk_ix i (n := e) (by omega) with h | h | h
  · exact Or.inl (Or.inl h)
  · exact Or.inl (Or.inr h)
  · exact Or.inr h
theorem dr_c2 (i q : Int32) (he : e ≤ 12) (hg : ∀ j, gc j = nI (g j) ∧ g j ≤ 4) : (i < 0 ∨ nI e ≤ i) ∨ (∃ j, j < e ∧ i = nI j ∧ (q < 0 ∨ gc j ≤ q)) ∨ ∃ j m, j < e ∧ i = nI j ∧ m < g j ∧ q = nI m := by
  rcases dr_c1 (e := e) i he with h | ⟨j, hj, rfl⟩
  · exact Or.inl h
  · have h4 := (hg j).2
    rcases pk_ix q (n := g j) (by omega) with h | h | ⟨m, hm, rfl⟩
    · exact Or.inr (Or.inl ⟨j, hj, rfl, Or.inl h⟩)
    · exact Or.inr (Or.inl ⟨j, hj, rfl, Or.inr (by rw [(hg j).1]; exact h)⟩)
    · exact Or.inr (Or.inr ⟨j, m, hj, rfl, hm, rfl⟩)
end
section
theorem i_vc_groups {k : Nat} {u : SX} {v : SY} (I : i_Rel k u v) (hk : k + 4 ≤ 2048) (v1 : Int32) : wpX_groups (fun r => wpY_groups (fun r' => r' = r ∧ i_Rel (k + 4) u v) v v1) u v1 := by
  have K := i_up I
  obtain ⟨e, b, G, V, g, c, ng, nc, gc, tg, tc, vc, va, ns, ts, rfl, rfl, ⟨heb, hb, hG, hV⟩, hg, hc, hn, ht⟩ := I
  have he : e ≤ 12 := by omega
  unfold wpX_groups wpY_groups
  dsimp only
  rcases dr_c1 (e := e) v1 he with h | ⟨j, hj, rfl⟩
  · exact dr_xeN h (br_t rfl (dr_ymN hb h (br_f dr_10 ⟨rfl, K⟩)))
  · have hi : vp_in (nI j) 12 := vp_in_nI (by omega) (by decide)
    exact dr_xeY hj he (br_f dr_10 ⟨hi, dr_ymY hb hj he (br_t rfl ⟨hi, rfl, K⟩)⟩)
theorem i_vc_values {k : Nat} {u : SX} {v : SY} (I : i_Rel k u v) (hk : k + 4 ≤ 2048) (v1 : Int32) (v2 : Int32) : wpX_values (fun r => wpY_values (fun r' => r' = r ∧ i_Rel (k + 4) u v) v v1 v2) u v1 v2 := by
  have K := i_up I
  obtain ⟨e, b, G, V, g, c, ng, nc, gc, tg, tc, vc, va, ns, ts, rfl, rfl, ⟨heb, hb, hG, hV⟩, hg, hc, hn, ht⟩ := I
  have he : e ≤ 12 := by omega
  unfold wpX_values wpY_values
  dsimp only
  rcases dr_c2 (e := e) v1 v2 he hg with h | ⟨j, hj, rfl, h⟩ | ⟨j, m, hj, rfl, hm, rfl⟩
  · exact dr_xgN1 h (br_t rfl (dr_ynN1 hb h (br_f dr_10 ⟨rfl, K⟩)))
  · exact dr_xgN2 hj he h (br_t rfl (dr_ynN2 hb hj he h (br_f dr_10 ⟨rfl, K⟩)))
  · have h4 := (hg j).2
    have hi : vp_in (nI (4 * j + m)) 48 := vp_in_nI (by omega) (by decide)
    rw [dr_sr]
    exact dr_xgY hj he hg hm (br_f dr_10 (dr_gs ⟨hi, dr_ynY hb hj he hg hm (br_t rfl ⟨hi, rfl, K⟩)⟩))
theorem i_vc_valueAt {k : Nat} {u : SX} {v : SY} (I : i_Rel k u v) (hk : k + 4 ≤ 2048) (v1 : Int32) (v2 : Int32) (v3 : Int32) : wpX_valueAt (fun r => wpY_valueAt (fun r' => r' = r ∧ i_Rel (k + 4) u v) v v1 v2 v3) u v1 v2 v3 := by
  have K := i_up I
  obtain ⟨e, b, G, V, g, c, ng, nc, gc, tg, tc, vc, va, ns, ts, rfl, rfl, ⟨heb, hb, hG, hV⟩, hg, hc, hn, ht⟩ := I
  have he : e ≤ 12 := by omega
  unfold wpX_valueAt wpY_valueAt
  dsimp only
  rcases dr_c2 (e := e) v1 v2 he hg with h | ⟨j, hj, rfl, h⟩ | ⟨j, m, hj, rfl, hm, rfl⟩
  · exact dr_xgN1 h (br_t rfl (dr_ynN1 hb h (br_f dr_10 ⟨rfl, K⟩)))
  · exact dr_xgN2 hj he h (br_t rfl (dr_ynN2 hb hj he h (br_f dr_10 ⟨rfl, K⟩)))
  · have h4 := (hg j).2
    have c4 := (hc (4 * j + m)).2
    have hi : vp_in (nI (4 * j + m)) 48 := vp_in_nI (by omega) (by decide)
    rw [dr_sr]
    rcases pk_ix v3 (n := c (4 * j + m)) (by omega) with h0 | h0 | ⟨p, hp, rfl⟩
    · exact dr_xgY hj he hg hm (br_f dr_10 (dr_gs (br_t h0 (dr_ynY hb hj he hg hm (br_t rfl (br_t h0 ⟨rfl, K⟩))))))
    · by_cases h1 : v3 < 0
      · exact dr_xgY hj he hg hm (br_f dr_10 (dr_gs (br_t h1 (dr_ynY hb hj he hg hm (br_t rfl (br_t h1 ⟨rfl, K⟩))))))
      · have h2 : ¬ v3 < vc (nI (4 * j + m)).toNatClampNeg := by
          rw [nI_clamp (by omega), (hc _).1]
          exact Int32.not_lt.mpr h0
        exact dr_xgY hj he hg hm (br_f dr_10 (dr_gs (br_f h1 ⟨hi, br_f h2 (dr_ynY hb hj he hg hm (br_t rfl (br_f h1 ⟨hi, br_f h2 ⟨rfl, K⟩⟩)))⟩)))
    · have h1 : ¬ nI p < 0 := nI_pos (by omega)
      have h2 : nI p < vc (nI (4 * j + m)).toNatClampNeg := by
        rw [nI_clamp (by omega), (hc _).1]
        exact nI_lt hp (by omega)
      have hv : vp_in (nI (4 * (4 * j + m) + p)) 192 := vp_in_nI (by omega) (by decide)
      rw [dr_16]
      exact dr_xgY hj he hg hm (br_f dr_10 (dr_gs (br_f h1 ⟨hi, br_t h2 (dr_vs ⟨hv, dr_ynY hb hj he hg hm (br_t rfl (br_f h1 ⟨hi, br_t h2 ⟨hv, rfl, K⟩⟩))⟩)⟩)))
theorem i_vc_hasNote {k : Nat} {u : SX} {v : SY} (I : i_Rel k u v) (hk : k + 4 ≤ 2048) (v1 : Int32) : wpX_hasNote (fun r => wpY_hasNote (fun r' => r' = r ∧ i_Rel (k + 4) u v) v v1) u v1 := by
  have K := i_up I
  obtain ⟨e, b, G, V, g, c, ng, nc, gc, tg, tc, vc, va, ns, ts, rfl, rfl, ⟨heb, hb, hG, hV⟩, hg, hc, hn, ht⟩ := I
  have he : e ≤ 12 := by omega
  unfold wpX_hasNote wpY_hasNote
  dsimp only
  rcases dr_c1 (e := e) v1 he with h | ⟨j, hj, rfl⟩
  · exact dr_xeN h (br_t rfl (dr_ymN hb h (br_f dr_10 ⟨rfl, K⟩)))
  · have hi : vp_in (nI j) 12 := vp_in_nI (by omega) (by decide)
    by_cases z : ng (nI j).toNatClampNeg = 0
    · exact dr_xeY hj he (br_f dr_10 ⟨hi, br_t z (dr_ymY hb hj he (br_t rfl ⟨hi, br_t z ⟨rfl, K⟩⟩))⟩)
    · exact dr_xeY hj he (br_f dr_10 ⟨hi, br_f z (dr_ymY hb hj he (br_t rfl ⟨hi, br_f z ⟨rfl, K⟩⟩))⟩)
theorem i_vc_label {k : Nat} {u : SX} {v : SY} (I : i_Rel k u v) (hk : k + 4 ≤ 2048) (v1 : Int32) (v2 : Int32) : wpX_label (fun r => wpY_label (fun r' => r' = r ∧ i_Rel (k + 4) u v) v v1 v2) u v1 v2 := by
  have K := i_up I
  obtain ⟨e, b, G, V, g, c, ng, nc, gc, tg, tc, vc, va, ns, ts, rfl, rfl, ⟨heb, hb, hG, hV⟩, hg, hc, hn, ht⟩ := I
  have he : e ≤ 12 := by omega
  unfold wpX_label wpY_label
  dsimp only
  unfold wpX_noteOf wpX_tagOf
  dsimp only
  by_cases q : v2 = -1
  · refine br_t q ?_
    rcases dr_c1 (e := e) v1 he with h | ⟨j, hj, rfl⟩
    · exact dr_xeN h (br_t rfl (dr_ymN hb h (br_f dr_10 ⟨rfl, K⟩)))
    · have hi : vp_in (nI j) 12 := vp_in_nI (by omega) (by decide)
      by_cases z : ng (nI j).toNatClampNeg = 0
      · exact dr_xeY hj he (br_f dr_10 ⟨hi, br_t z (dr_ymY hb hj he (br_t rfl (br_t q ⟨hi, (hn _).trans (if_pos z), K⟩)))⟩)
      · exact dr_xeY hj he (br_f dr_10 ⟨hi, br_f z ⟨hi, dr_ymY hb hj he (br_t rfl (br_t q ⟨hi, (hn _).trans (if_neg z), K⟩))⟩⟩)
  · refine br_f q ?_
    rcases dr_c2 (e := e) v1 v2 he hg with h | ⟨j, hj, rfl, h⟩ | ⟨j, m, hj, rfl, hm, rfl⟩
    · exact dr_xgN1 h (br_t rfl (dr_ymN hb h (br_f dr_10 ⟨rfl, K⟩)))
    · exact dr_xgN2 hj he h (br_t rfl (dr_ymY hb hj he (br_t rfl (br_f q (dr_ynN2 hb hj he h (br_f dr_10 ⟨rfl, K⟩))))))
    · have h4 := (hg j).2
      have hi : vp_in (nI (4 * j + m)) 48 := vp_in_nI (by omega) (by decide)
      rw [dr_sr]
      by_cases z : tg (nI (4 * j + m)).toNatClampNeg = 0
      · exact dr_xgY hj he hg hm (br_f dr_10 (dr_gs ⟨hi, br_t z (dr_ymY hb hj he (br_t rfl (br_f q (dr_ynY hb hj he hg hm (br_t rfl ⟨hi, (ht _).trans (if_pos z), K⟩)))))⟩))
      · exact dr_xgY hj he hg hm (br_f dr_10 (dr_gs ⟨hi, br_f z ⟨hi, dr_ymY hb hj he (br_t rfl (br_f q (dr_ynY hb hj he hg hm (br_t rfl ⟨hi, (ht _).trans (if_neg z), K⟩))))⟩⟩))
end
end
section
section
variable {e b G V : Nat} {g c : Nat → Nat} {ng nc gc tg tc vc va ns ts : Nat → Int32} {s : Nat} {x y z : Int32}
theorem dr_OkB (h : dr_Ok e 0 G V g c ng nc gc tg tc vc ns ts) (he : e < 12) (hz : z = if x = 0 then 0 else y) : dr_Ok e 1 G V g c (upd ng e x) (upd nc e y) gc tg tc vc (upd ns e z) ts := by
  obtain ⟨⟨h1, h2, h3, h4⟩, hg, hc, hn, ht⟩ := h
  refine ⟨⟨by omega, by omega, h3, h4⟩, hg, hc, fun j => ?_, ht⟩
  by_cases q : j = e
  · subst q
    rw [pk_us, pk_us, pk_us]
    exact hz
  · rw [pk_un q, pk_un q, pk_un q]
    exact hn j
theorem dr_OkG (h : dr_Ok e b G V g c ng nc gc tg tc vc ns ts) (hG : G < 40) (hge : g e < 4) (hz : z = if x = 0 then 0 else y) : dr_Ok e b (G + 1) V (fun j => if j = e then g e + 1 else g j) c ng nc (upd gc e (nI (g e + 1))) (upd tg s x) (upd tc s y) vc ns (upd ts s z) := by
  obtain ⟨⟨h1, h2, h3, h4⟩, hg, hc, hn, ht⟩ := h
  refine ⟨⟨h1, h2, by omega, h4⟩, fun j => ?_, hc, hn, fun j => ?_⟩
  · by_cases q : j = e
    · subst q
      rw [pk_us]
      simp only [if_true]
      exact ⟨trivial, by omega⟩
    · rw [pk_un q]
      simp only [if_neg q]
      exact hg j
  · by_cases q : j = s
    · subst q
      rw [pk_us, pk_us, pk_us]
      exact hz
    · rw [pk_un q, pk_un q, pk_un q]
      exact ht j
theorem dr_OkV (h : dr_Ok e b G V g c ng nc gc tg tc vc ns ts) (hV : V < 60) (hcs : c s < 4) : dr_Ok e b G (V + 1) g (fun j => if j = s then c s + 1 else c j) ng nc gc tg tc (upd vc s (nI (c s + 1))) ns ts := by
  obtain ⟨⟨h1, h2, h3, h4⟩, hg, hc, hn, ht⟩ := h
  refine ⟨⟨h1, h2, h3, by omega⟩, hg, fun j => ?_, hn, ht⟩
  by_cases q : j = s
  · subst q
    rw [pk_us]
    simp only [if_true]
    exact ⟨trivial, by omega⟩
  · rw [pk_un q]
    simp only [if_neg q]
    exact hc j
theorem dr_OkE (h : dr_Ok e 1 G V g c ng nc gc tg tc vc ns ts) : dr_Ok (e + 1) 0 G V g c ng nc gc tg tc vc ns ts := by
  obtain ⟨⟨h1, h2, h3, h4⟩, hg, hc, hn, ht⟩ := h
  exact ⟨⟨by omega, by omega, h3, h4⟩, hg, hc, hn, ht⟩
end
section
theorem i_vc_begin {k : Nat} {u : SX} {v : SY} (I : i_Rel k u v) (hk : k + 4 ≤ 2048) (v1 : Int32) (v2 : Int32) : wpX_begin (fun r u' => wpY_begin (fun r' v' => r' = r ∧ i_Rel (k + 4) u' v') v (lw_bz v1) v2) u (lw_bz v1) v2 := by
  have K := i_up I
  obtain ⟨e, b, G, V, g, c, ng, nc, gc, tg, tc, vc, va, ns, ts, rfl, rfl, h⟩ := I
  obtain ⟨heb, hb, hG, hV⟩ := h.1
  unfold wpX_begin wpY_begin
  dsimp only
  unfold wY_begin_45
  rcases (by omega : b = 0 ∨ b = 1) with rfl | rfl
  · simp only [Nat.add_zero] at K ⊢
    by_cases he : e < 12
    · have h12 : nI e < 12 := nI_lt (b := 12) he (by decide)
      have hne : ¬ nI e = 12 := fun q => by
        have q' := (nI_eq (a := e) (b := 12) (by omega) (by decide)).mp q
        omega
      have hi : vp_in (nI e) 12 := vp_in_nI he (by decide)
      simp only [nI_clamp (show e < 2 ^ 31 by omega)]
      rcases lw_bz_01 v1 with z | z
      · rw [z]
        refine br_t nI_0 (br_t h12 ⟨hi, nm_e ⟨hi, nm_e (br_t nI_0 (br_f hne ⟨hi, nm_e (br_t rfl ⟨hi, nm_e (nm_r (nI_1 e) ⟨nI_pred e, ?_⟩)⟩)⟩))⟩⟩)
        exact ⟨e, 1, G, V, g, c, _, _, gc, tg, tc, vc, va, _, ts, rfl, rfl, dr_OkB h he (if_pos dr_b0).symm⟩
      · rw [z]
        refine br_t nI_0 (br_t h12 ⟨hi, nm_e ⟨hi, nm_e (br_t nI_0 (br_f hne ⟨hi, nm_e (br_f dr_10 ⟨hi, nm_e (nm_r (nI_1 e) ⟨nI_pred e, ?_⟩)⟩)⟩))⟩⟩)
        exact ⟨e, 1, G, V, g, c, _, _, gc, tg, tc, vc, va, _, ts, rfl, rfl, dr_OkB h he (if_neg (by rw [dr_b1]; exact dr_10)).symm⟩
    · obtain rfl : e = 12 := by omega
      exact br_t nI_0 (br_f (nI_nlt (b := 12) (Nat.le_refl _) (by decide)) (br_t nI_0 (br_t rfl ⟨by trivial, K⟩)))
  · have h1 : ¬ nI 1 = 0 := nI_ne0 (by decide) (by decide)
    exact br_f h1 (br_f h1 ⟨rfl, K⟩)
theorem i_vc_group {k : Nat} {u : SX} {v : SY} (I : i_Rel k u v) (hk : k + 4 ≤ 2048) (v1 : Int32) (v2 : Int32) : wpX_group (fun r u' => wpY_group (fun r' v' => r' = r ∧ i_Rel (k + 4) u' v') v (lw_bz v1) v2) u (lw_bz v1) v2 := by
  have K := i_up I
  obtain ⟨e, b, G, V, g, c, ng, nc, gc, tg, tc, vc, va, ns, ts, rfl, rfl, h⟩ := I
  obtain ⟨heb, hb, hG, hV⟩ := h.1
  obtain ⟨hge, hg4⟩ := h.2.1 e
  unfold wpX_group wpY_group
  dsimp only
  unfold wY_group_75
  rcases (by omega : b = 0 ∨ b = 1) with rfl | rfl
  · exact br_t nI_0 (br_t nI_0 ⟨rfl, K⟩)
  · have h1 : ¬ nI 1 = 0 := nI_ne0 (by decide) (by decide)
    have hi : vp_in (nI e) 12 := vp_in_nI (by omega) (by decide)
    simp only [nI_pred, nI_clamp (show e < 2 ^ 31 by omega), hge, nI_1]
    refine br_f h1 ⟨hi, ?_⟩
    by_cases h4 : g e = 4
    · exact br_t (nI_le (a := 4) (by omega) (by omega)) (br_f h1 ⟨hi, br_t (by rw [h4]; rfl) ⟨by trivial, K⟩⟩)
    · have hl : ¬ (4 : Int32) ≤ nI (g e) := nI_ge (b := 4) (by omega) (by decide)
      have hn4 : ¬ nI (g e) = 4 := fun q => h4 ((nI_eq (a := g e) (b := 4) (by omega) (by decide)).mp q)
      refine br_f hl ?_
      by_cases h40 : G = 40
      · subst h40
        exact br_f (nI_nlt (b := 40) (Nat.le_refl _) (by decide)) (br_f h1 ⟨hi, br_f hn4 (br_t rfl ⟨by trivial, K⟩)⟩)
      · have hG1 : nI G < 40 := nI_lt (b := 40) (by omega) (by decide)
        have hG2 : ¬ nI G = 40 := fun q => h40 ((nI_eq (a := G) (b := 40) (by omega) (by decide)).mp q)
        have hs : vp_in (nI (4 * e + g e)) 48 := vp_in_nI (by omega) (by decide)
        refine br_t hG1 ⟨hi, dr_gs ⟨hs, nm_e ⟨hs, nm_e ⟨hi, hi, nm_e (nm_e ⟨hi, br_f h1 ⟨hi, br_f hn4 (br_f hG2 (nm_e ⟨hi, nm_r (e' := nI (4 * e + g e)) ?_ ⟨hs, nm_e ?_⟩⟩))⟩⟩)⟩⟩⟩⟩
        · rw [nI_clamp (n := e) (by omega), hge, dr_sr]
        · simp only [nI_clamp (show e < 2 ^ 31 by omega), hge, nI_1]
          rcases lw_bz_01 v1 with z | z
          · rw [z]
            refine br_t rfl ⟨hs, nm_e ⟨hi, hi, nm_e (nm_e ⟨hi, rfl, ?_⟩)⟩⟩
            exact ⟨e, 1, G + 1, V, _, c, ng, nc, _, _, _, vc, va, ns, _, rfl, rfl, dr_OkG h (by omega) (by omega) (if_pos dr_b0).symm⟩
          · rw [z]
            refine br_f dr_10 ⟨hs, nm_e ⟨hi, hi, nm_e (nm_e ⟨hi, rfl, ?_⟩)⟩⟩
            exact ⟨e, 1, G + 1, V, _, c, ng, nc, _, _, _, vc, va, ns, _, rfl, rfl, dr_OkG h (by omega) (by omega) (if_neg (by rw [dr_b1]; exact dr_10)).symm⟩
theorem i_vc_value {k : Nat} {u : SX} {v : SY} (I : i_Rel k u v) (hk : k + 4 ≤ 2048) (v1 : Int32) : wpX_value (fun r u' => wpY_value (fun r' v' => r' = r ∧ i_Rel (k + 4) u' v') v v1) u v1 := by
  have K := i_up I
  obtain ⟨e, b, G, V, g, c, ng, nc, gc, tg, tc, vc, va, ns, ts, rfl, rfl, h⟩ := I
  obtain ⟨heb, hb, hG, hV⟩ := h.1
  obtain ⟨hge, hg4⟩ := h.2.1 e
  unfold wpX_value wpY_value
  dsimp only
  rcases (by omega : b = 0 ∨ b = 1) with rfl | rfl
  · exact br_t nI_0 (br_t nI_0 ⟨rfl, K⟩)
  · have h1 : ¬ nI 1 = 0 := nI_ne0 (by decide) (by decide)
    have hi : vp_in (nI e) 12 := vp_in_nI (by omega) (by decide)
    simp only [nI_pred, nI_clamp (show e < 2 ^ 31 by omega), hge, nI_1]
    refine br_f h1 ⟨hi, ?_⟩
    rcases (show g e = 0 ∨ ∃ t, g e = t + 1 from (Nat.eq_zero_or_pos (g e)).imp id (fun q => ⟨g e - 1, by omega⟩)) with h0 | ⟨t, h0⟩
    · rw [h0]
      exact br_t nI_0 (br_f h1 ⟨hi, br_t nI_0 ⟨by trivial, K⟩⟩)
    · have hn0 : ¬ nI (t + 1) = 0 := nI_ne0 (by omega) (by omega)
      rw [h0]
      refine br_f hn0 ?_
      by_cases h60 : V = 60
      · subst h60
        exact br_f (nI_nlt (b := 60) (Nat.le_refl _) (by decide)) (br_f h1 ⟨hi, br_f hn0 (br_t rfl ⟨by trivial, K⟩)⟩)
      · have hV1 : nI V < 60 := nI_lt (b := 60) (by omega) (by decide)
        have hV2 : ¬ nI V = 60 := fun q => h60 ((nI_eq (a := V) (b := 60) (by omega) (by decide)).mp q)
        have hs : vp_in (nI (4 * e + t)) 48 := vp_in_nI (by omega) (by decide)
        obtain ⟨hce, hc4⟩ := h.2.2.1 (4 * e + t)
        have ex : 4 * nI e + nI (t + 1) - 1 = nI (4 * e + t) := by
          rw [dr_sr]
          exact nI_pred _
        simp only [nI_pred, ex]
        refine br_t hV1 ⟨hi, dr_gs ⟨hs, ?_⟩⟩
        simp only [nI_clamp (show 4 * e + t < 2 ^ 31 by omega), hce, nI_1]
        by_cases h4 : c (4 * e + t) = 4
        · rw [h4]
          refine br_f (nI_nlt (b := 4) (Nat.le_refl _) (by decide)) (br_f h1 ⟨hi, br_f hn0 (br_f hV2 ⟨hi, nm_e ⟨hs, ?_⟩⟩)⟩)
          rw [nI_clamp (n := 4 * e + t) (by omega), hce, h4]
          exact br_t rfl ⟨by trivial, K⟩
        · have hl : nI (c (4 * e + t)) < 4 := nI_lt (b := 4) (by omega) (by decide)
          have hn4 : ¬ nI (c (4 * e + t)) = 4 := fun q => h4 ((nI_eq (a := c (4 * e + t)) (b := 4) (by omega) (by decide)).mp q)
          have hv : vp_in (nI (4 * (4 * e + t) + c (4 * e + t))) 192 := vp_in_nI (by omega) (by decide)
          refine br_t hl ⟨hs, dr_vs ⟨hv, nm_e ⟨hs, hs, nm_e (nm_e ⟨hs, br_f h1 ⟨hi, br_f hn0 (br_f hV2 ⟨hi, nm_e ⟨hs, ?_⟩⟩)⟩⟩)⟩⟩⟩
          simp only [nI_clamp (show 4 * e + t < 2 ^ 31 by omega), hce, nI_1, dr_sr]
          refine br_f hn4 ⟨hs, hv, nm_e ⟨hs, hs, nm_e (nm_e ⟨hs, rfl, ?_⟩)⟩⟩
          exact ⟨e, 1, G, V + 1, g, _, ng, nc, gc, tg, tc, _, _, ns, ts, rfl, rfl, dr_OkV h (by omega) (by omega)⟩
theorem i_vc_end {k : Nat} {u : SX} {v : SY} (I : i_Rel k u v) (hk : k + 4 ≤ 2048) : wpX_end (fun r u' => wpY_end (fun r' v' => r' = r ∧ i_Rel (k + 4) u' v') v) u := by
  have K := i_up I
  obtain ⟨e, b, G, V, g, c, ng, nc, gc, tg, tc, vc, va, ns, ts, rfl, rfl, h⟩ := I
  obtain ⟨heb, hb, hG, hV⟩ := h.1
  unfold wpX_end wpY_end
  dsimp only
  rcases (by omega : b = 0 ∨ b = 1) with rfl | rfl
  · exact br_t nI_0 (br_t nI_0 ⟨rfl, K⟩)
  · have h1 : ¬ nI 1 = 0 := nI_ne0 (by decide) (by decide)
    refine br_f h1 (nm_r (nI_1 e) (br_f h1 ⟨rfl, ?_⟩))
    exact ⟨e + 1, 0, G, V, g, c, ng, nc, gc, tg, tc, vc, va, ns, ts, rfl, rfl, dr_OkE h⟩
end
end
section
section
def dr_P (f : Nat → Int32) : Nat → Int32
  | 0 => 0
  | n + 1 => dr_P f n + f n
def dr_T (tg tc va : Nat → Int32) (c : Nat → Nat) (t : Int32) (s : Nat) : Int32 := if tg s = 0 then 0 else if tc s = t then dr_P (fun i => va (4 * s + i)) (c s) else 0
def dr_F (tg tc va : Nat → Int32) (g c : Nat → Nat) (t : Int32) (s : Nat) : Int32 := if s % 4 < g (s / 4) then dr_T tg tc va c t s else 0
variable {post : Int32 → Prop} {J : Int32 → Int32 → Prop} {e b : Nat} {G V f o : Int32} {g c : Nat → Nat} {ng nc gc tg tc vc va ns ts : Nat → Int32} {t w : Int32} {r s a : Nat}
theorem dr_Fin {m : Nat} (h4 : m < 4) (hm : m < g r) : dr_F tg tc va g c t (4 * r + m) = dr_T tg tc va c t (4 * r + m) := by
  unfold dr_F
  rw [show (4 * r + m) % 4 = m by omega, show (4 * r + m) / 4 = r by omega, if_pos hm]
theorem dr_Fout {m : Nat} (h4 : m < 4) (hm : g r ≤ m) : dr_F tg tc va g c t (4 * r + m) = 0 := by
  unfold dr_F
  rw [show (4 * r + m) % 4 = m by omega, show (4 * r + m) / 4 = r by omega, if_neg (by omega)]
theorem dr_skip (h4 : g r ≤ 4) : ∀ d : Nat, g r + d ≤ 4 → dr_P (dr_F tg tc va g c t) (4 * r + (g r + d)) = dr_P (dr_F tg tc va g c t) (4 * r + g r) := by
  intro d
  induction d with
  | zero => intro _; rfl
  | succ d ih =>
    intro hd
    show dr_P (dr_F tg tc va g c t) (4 * r + (g r + d)) + dr_F tg tc va g c t (4 * r + (g r + d)) = _
    rw [ih (by omega), dr_Fout (by omega) (by omega), Int32.add_zero]
theorem dr_next (h4 : g r ≤ 4) : dr_P (dr_F tg tc va g c t) (4 * (r + 1)) = dr_P (dr_F tg tc va g c t) (4 * r + g r) := by
  rw [← dr_skip h4 (4 - g r) (by omega)]
  exact congrArg _ (by omega)
theorem dr_xs (hs : s < 48) (hc : ∀ j, vc j = nI (c j) ∧ c j ≤ 4) (H : post (dr_P (fun i => va (4 * s + i)) (c s))) : ∀ d i : Nat, i + d = c s → wX_sumOfGroup_4 post (nI s) f o G V ng nc gc tg tc vc va (d + 1) (dr_P (fun i => va (4 * s + i)) i) (nI i) := by
  intro d
  have c4 := (hc s).2
  have hi : vp_in (nI s) 48 := vp_in_nI hs (by decide)
  induction d with
  | zero =>
    intro i hd
    obtain rfl : i = c s := by omega
    unfold wX_sumOfGroup_4
    rw [nI_clamp (n := s) (by omega), (hc s).1]
    exact ⟨hi, br_t (nI_le (Nat.le_refl _) (by omega)) H⟩
  | succ d ih =>
    intro i hd
    unfold wX_sumOfGroup_4
    rw [nI_clamp (n := s) (by omega), (hc s).1]
    refine ⟨hi, br_f (nI_ge (by omega) (by omega)) (dr_vs ⟨vp_in_nI (by omega) (by decide), nm_r (e' := dr_P (fun i => va (4 * s + i)) (i + 1)) ?_ (nm_r (nI_1 i) (ih (i + 1) (by omega)))⟩)⟩
    rw [nI_clamp (by omega)]
    rfl
theorem dr_xsg (hs : s < 48) (hc : ∀ j, vc j = nI (c j) ∧ c j ≤ 4) (H : post (dr_P (fun i => va (4 * s + i)) (c s))) : wpX_sumOfGroup post (f, o, G, V, ng, nc, gc, tg, tc, vc, va) (nI s) := by
  unfold wpX_sumOfGroup
  dsimp only
  exact ⟨c s + 1, dr_xs hs hc H (c s) 0 (by omega)⟩
theorem dr_x15 (hr : r < 12) (hg : ∀ j, gc j = nI (g j) ∧ g j ≤ 4) (hc : ∀ j, vc j = nI (c j) ∧ c j ≤ 4) (H : J (dr_P (dr_F tg tc va g c t) (4 * r + g r)) (nI (r + 1))) : ∀ (d m : Nat) (x : Int32), m + d = g r → x = dr_P (dr_F tg tc va g c t) (4 * r + m) → wX_sumByTag_15 post J t (nI r) f o G V ng nc gc tg tc vc va (d + 1) x (nI m) := by
  intro d
  have g4 := (hg r).2
  have hi : vp_in (nI r) 12 := vp_in_nI hr (by decide)
  induction d with
  | zero =>
    intro m x hd hx
    obtain rfl : m = g r := by omega
    unfold wX_sumByTag_15
    rw [nI_clamp (n := r) (by omega), (hg r).1]
    refine ⟨hi, br_t (nI_le (Nat.le_refl _) (by omega)) (nm_r (nI_1 r) ?_)⟩
    rw [hx]
    exact H
  | succ d ih =>
    intro m x hd hx
    have hs : vp_in (nI (4 * r + m)) 48 := vp_in_nI (by omega) (by decide)
    have hF : dr_P (dr_F tg tc va g c t) (4 * r + (m + 1)) = x + dr_T tg tc va c t (4 * r + m) := by
      rw [hx, ← dr_Fin (g := g) (r := r) (by omega) (by omega)]
      rfl
    unfold dr_T at hF
    unfold wX_sumByTag_15
    rw [nI_clamp (n := r) (by omega), (hg r).1]
    refine ⟨hi, br_f (nI_ge (by omega) (by omega)) (dr_gs ⟨hs, ?_⟩)⟩
    rw [nI_clamp (n := 4 * r + m) (by omega)]
    by_cases z : tg (4 * r + m) = 0
    · rw [if_pos z, Int32.add_zero] at hF
      exact br_t z (nm_r (nI_1 m) (ih (m + 1) x (by omega) hF.symm))
    · rw [if_neg z] at hF
      refine br_f z ⟨hs, ?_⟩
      by_cases q : tc (4 * r + m) = t
      · rw [if_pos q] at hF
        exact br_t q (dr_xsg (by omega) hc (nm_e (nm_r (nI_1 m) (ih (m + 1) _ (by omega) hF.symm))))
      · rw [if_neg q, Int32.add_zero] at hF
        exact br_f q (nm_r (nI_1 m) (ih (m + 1) x (by omega) hF.symm))
theorem dr_x4 (he : e ≤ 12) (hg : ∀ j, gc j = nI (g j) ∧ g j ≤ 4) (hc : ∀ j, vc j = nI (c j) ∧ c j ≤ 4) (H : post (dr_P (dr_F tg tc va g c t) (4 * e))) : ∀ (d r : Nat) (x : Int32), r + d = e → x = dr_P (dr_F tg tc va g c t) (4 * r) → wX_sumByTag_4 post t (nI e) o G V ng nc gc tg tc vc va (d + 1) x (nI r) := by
  intro d
  induction d with
  | zero =>
    intro r x hd hx
    obtain rfl : r = e := by omega
    unfold wX_sumByTag_4
    refine br_t (nI_le (Nat.le_refl _) (by omega)) ?_
    rw [hx]
    exact H
  | succ d ih =>
    intro r x hd hx
    unfold wX_sumByTag_4
    exact br_f (nI_ge (by omega) (by omega)) ⟨g r + 1, dr_x15 (by omega) hg hc (ih (r + 1) _ (by omega) (dr_next (hg r).2).symm) (g r) 0 x (by omega) hx⟩
/-- the reference's inner loop where the group adds nothing -/
theorem dr_y38n (ha : a < 48) (hno : w = 0 ∨ tg a = 0 ∨ ¬ ts a = t) (x : Int32) (H : J x (nI (a + 1))) : ∀ d i : Nat, i + d = 4 → wY_sumByTag_38 post J t (nI a) w f o G V ng ns gc tg ts vc va (d + 1) x (nI i) := by
  intro d
  have hi : vp_in (nI a) 48 := vp_in_nI ha (by decide)
  induction d with
  | zero =>
    intro i hd
    obtain rfl : i = 4 := by omega
    unfold wY_sumByTag_38
    exact br_t (nI_le (a := 4) (Nat.le_refl _) (by decide)) (nm_r (nI_1 a) H)
  | succ d ih =>
    intro i hd
    unfold wY_sumByTag_38
    refine br_f (nI_ge (b := 4) (by omega) (by decide)) ?_
    rw [nI_clamp (n := a) (by omega)]
    have R := ih (i + 1) (by omega)
    by_cases z : w = 0
    · exact br_t z (nm_r (nI_1 i) R)
    · refine br_f z ⟨hi, ?_⟩
      by_cases z2 : tg a = 0
      · exact br_t z2 (nm_r (nI_1 i) R)
      · have z3 : ¬ ts a = t := (hno.resolve_left z).resolve_left z2
        exact br_f z2 ⟨hi, br_f z3 (nm_r (nI_1 i) R)⟩
/-- the reference's inner loop where the group has the tag -/
theorem dr_y38y (ha : a < 48) (hc : ∀ j, vc j = nI (c j) ∧ c j ≤ 4) (hw : ¬ w = 0) (h1 : ¬ tg a = 0) (h2 : ts a = t) (x0 : Int32) (H : J (x0 + dr_P (fun i => va (4 * a + i)) (c a)) (nI (a + 1))) : ∀ (d i : Nat) (x : Int32), i + d = 4 → x = x0 + dr_P (fun i => va (4 * a + i)) (if i ≤ c a then i else c a) → wY_sumByTag_38 post J t (nI a) w f o G V ng ns gc tg ts vc va (d + 1) x (nI i) := by
  intro d
  have c4 := (hc a).2
  have hi : vp_in (nI a) 48 := vp_in_nI ha (by decide)
  induction d with
  | zero =>
    intro i x hd hx
    obtain rfl : i = 4 := by omega
    unfold wY_sumByTag_38
    refine br_t (nI_le (a := 4) (Nat.le_refl _) (by decide)) (nm_r (nI_1 a) ?_)
    rw [hx, show (if 4 ≤ c a then 4 else c a) = c a by split <;> omega]
    exact H
  | succ d ih =>
    intro i x hd hx
    unfold wY_sumByTag_38
    refine br_f (nI_ge (b := 4) (by omega) (by decide)) (br_f hw ⟨hi, ?_⟩)
    rw [nI_clamp (n := a) (by omega), (hc a).1]
    refine br_f h1 ⟨hi, br_t h2 ⟨hi, ?_⟩⟩
    by_cases q : c a ≤ i
    · refine br_t (nI_le q (by omega)) (nm_r (nI_1 i) (ih (i + 1) x (by omega) ?_))
      rw [hx, show (if i ≤ c a then i else c a) = c a by split <;> omega, show (if i + 1 ≤ c a then i + 1 else c a) = c a by split <;> omega]
    · rw [dr_sr]
      refine br_f (nI_ge (by omega) (by omega)) ⟨vp_in_nI (by omega) (by decide), nm_e (nm_r (nI_1 i) (ih (i + 1) _ (by omega) ?_))⟩
      rw [hx, if_pos (by omega), if_pos (by omega), nI_clamp (by omega), Int32.add_assoc]
      rfl
theorem dr_y4 (hb : b ≤ 1) (he : e ≤ 12) (hg : ∀ j, gc j = nI (g j) ∧ g j ≤ 4) (hc : ∀ j, vc j = nI (c j) ∧ c j ≤ 4) (ht : ∀ j, ts j = if tg j = 0 then 0 else tc j) (H : post (dr_P (dr_F tg tc va g c t) (4 * e))) : ∀ (d a : Nat) (x : Int32), a + d = 4 * e → x = dr_P (dr_F tg tc va g c t) a → wY_sumByTag_4 post t (nI (e + b)) (nI b) G V ng ns gc tg ts vc va (d + 1) x (nI a) := by
  intro d
  induction d with
  | zero =>
    intro a x hd hx
    obtain rfl : a = 4 * e := by omega
    unfold wY_sumByTag_4
    refine dr_ye hb ?_
    rw [dr_4e]
    refine br_t (nI_le (Nat.le_refl _) (by omega)) ?_
    rw [hx]
    exact H
  | succ d ih =>
    intro a x hd hx
    have ha : a < 48 := by omega
    unfold wY_sumByTag_4
    refine dr_ye hb ?_
    rw [dr_4e, dr_d4 (i := a) (by omega), dr_r4 (by omega), nI_clamp (n := a / 4) (by omega), (hg (a / 4)).1]
    have g4 := (hg (a / 4)).2
    refine br_f (nI_ge (by omega) (by omega)) ⟨dr_40, dr_40, vp_in_nI (by omega) (by decide), ?_⟩
    have hF : dr_P (dr_F tg tc va g c t) (a + 1) = x + dr_F tg tc va g c t a := by
      rw [hx]
      rfl
    unfold dr_F at hF
    by_cases q : g (a / 4) ≤ a % 4
    · rw [if_neg (by omega), Int32.add_zero] at hF
      exact br_t (nI_le q (by omega)) ⟨5, dr_y38n ha (Or.inl rfl) x (ih (a + 1) x (by omega) hF.symm) 4 0 rfl⟩
    · rw [if_pos (by omega)] at hF
      unfold dr_T at hF
      refine br_f (nI_ge (by omega) (by omega)) ⟨5, ?_⟩
      by_cases z : tg a = 0
      · rw [if_pos z, Int32.add_zero] at hF
        exact dr_y38n ha (Or.inr (Or.inl z)) x (ih (a + 1) x (by omega) hF.symm) 4 0 rfl
      · have hta : ts a = tc a := (ht a).trans (if_neg z)
        rw [if_neg z] at hF
        by_cases z2 : tc a = t
        · rw [if_pos z2] at hF
          refine dr_y38y ha hc dr_10 z (hta.trans z2) x (ih (a + 1) _ (by omega) hF.symm) 4 0 x rfl ?_
          rw [if_pos (Nat.zero_le _)]
          exact (Int32.add_zero x).symm
        · rw [if_neg z2, Int32.add_zero] at hF
          exact dr_y38n ha (Or.inr (Or.inr (by rw [hta]; exact z2))) x (ih (a + 1) x (by omega) hF.symm) 4 0 rfl
end
section
theorem i_vc_sumByTag {k : Nat} {u : SX} {v : SY} (I : i_Rel k u v) (hk : k + 4 ≤ 2048) (v1 : Int32) : wpX_sumByTag (fun r => wpY_sumByTag (fun r' => r' = r ∧ i_Rel (k + 4) u v) v v1) u v1 := by
  have K := i_up I
  obtain ⟨e, b, G, V, g, c, ng, nc, gc, tg, tc, vc, va, ns, ts, rfl, rfl, ⟨heb, hb, hG, hV⟩, hg, hc, hn, ht⟩ := I
  have he : e ≤ 12 := by omega
  unfold wpX_sumByTag wpY_sumByTag
  dsimp only
  exact ⟨e + 1, dr_x4 he hg hc ⟨4 * e + 1, dr_y4 hb he hg hc ht ⟨rfl, K⟩ (4 * e) 0 0 (by omega) rfl⟩ e 0 0 (by omega) rfl⟩
end
end
section
section
variable {post : Int32 → Prop} {e b : Nat} {G V f o : Int32} {g c : Nat → Nat} {ng nc gc tg tc vc va ns ts : Nat → Int32} {lo hi : Int32} {r s : Nat}
/-- some j from i up to N has W -/
def dr_E (W : Nat → Prop) (i N : Nat) : Prop := ∃ j, i ≤ j ∧ j < N ∧ W j
theorem dr_E0 {W : Nat → Prop} {N : Nat} : ¬ dr_E W N N := fun ⟨_, h1, h2, _⟩ => by omega
theorem dr_Eh {W : Nat → Prop} {i N : Nat} (hi : i < N) (h : W i) : dr_E W i N := ⟨i, Nat.le_refl _, hi, h⟩
theorem dr_Es {W : Nat → Prop} {i N : Nat} (h : dr_E W (i + 1) N) : dr_E W i N := by
  obtain ⟨j, h1, h2, h3⟩ := h
  exact ⟨j, by omega, h2, h3⟩
theorem dr_En {W : Nat → Prop} {i N : Nat} (hn : ¬ W i) (h : ¬ dr_E W (i + 1) N) : ¬ dr_E W i N := by
  intro ⟨j, h1, h2, h3⟩
  by_cases q : j = i
  · subst q
    exact hn h3
  · exact h ⟨j, by omega, h2, h3⟩
/-- the value at place p lies within -/
def dr_hit (va : Nat → Int32) (lo hi : Int32) (p : Nat) : Prop := ¬ va p < lo ∧ ¬ hi < va p
theorem dr_xr3 (hs : s < 48) (hc : ∀ j, vc j = nI (c j) ∧ c j ≤ 4) : ∀ d i : Nat, i + d = c s → (dr_E (fun j => dr_hit va lo hi (4 * s + j)) i (c s) → post 1) → (¬ dr_E (fun j => dr_hit va lo hi (4 * s + j)) i (c s) → post 0) → wX_groupReaches_3 post (nI s) lo hi f o G V ng nc gc tg tc vc va (d + 1) (nI i) := by
  intro d
  have c4 := (hc s).2
  have hin : vp_in (nI s) 48 := vp_in_nI hs (by decide)
  induction d with
  | zero =>
    intro i hd H1 H0
    obtain rfl : i = c s := by omega
    unfold wX_groupReaches_3
    rw [nI_clamp (n := s) (by omega), (hc s).1]
    exact ⟨hin, br_t (nI_le (Nat.le_refl _) (by omega)) (H0 dr_E0)⟩
  | succ d ih =>
    intro i hd H1 H0
    have hv : vp_in (nI (4 * s + i)) 192 := vp_in_nI (by omega) (by decide)
    unfold wX_groupReaches_3
    rw [nI_clamp (n := s) (by omega), (hc s).1]
    refine ⟨hin, br_f (nI_ge (by omega) (by omega)) (dr_vs ⟨hv, ?_⟩)⟩
    rw [nI_clamp (n := 4 * s + i) (by omega)]
    by_cases z : va (4 * s + i) < lo
    · exact br_t z (nm_r (nI_1 i) (ih (i + 1) (by omega) (fun h => H1 (dr_Es h)) (fun h => H0 (dr_En (fun w => w.1 z) h))))
    · refine br_f z ⟨hv, ?_⟩
      by_cases z2 : hi < va (4 * s + i)
      · exact br_t z2 (nm_r (nI_1 i) (ih (i + 1) (by omega) (fun h => H1 (dr_Es h)) (fun h => H0 (dr_En (fun w => w.2 z2) h))))
      · exact br_f z2 (H1 (dr_Eh (by omega) ⟨z, z2⟩))
theorem dr_xgr (hs : s < 48) (hc : ∀ j, vc j = nI (c j) ∧ c j ≤ 4) (H1 : dr_E (fun j => dr_hit va lo hi (4 * s + j)) 0 (c s) → post 1) (H0 : ¬ dr_E (fun j => dr_hit va lo hi (4 * s + j)) 0 (c s) → post 0) : wpX_groupReaches post (f, o, G, V, ng, nc, gc, tg, tc, vc, va) (nI s) lo hi := by
  unfold wpX_groupReaches
  dsimp only
  exact ⟨c s + 1, dr_xr3 hs hc (c s) 0 (by omega) H1 H0⟩
def dr_WX (va : Nat → Int32) (c : Nat → Nat) (lo hi : Int32) (r m : Nat) : Prop := dr_E (fun j => dr_hit va lo hi (4 * (4 * r + m) + j)) 0 (c (4 * r + m))
theorem dr_xq3 (hr : r < 12) (hg : ∀ j, gc j = nI (g j) ∧ g j ≤ 4) (hc : ∀ j, vc j = nI (c j) ∧ c j ≤ 4) : ∀ d m : Nat, m + d = g r → (dr_E (dr_WX va c lo hi r) m (g r) → post 1) → (¬ dr_E (dr_WX va c lo hi r) m (g r) → post 0) → wX_recordReaches_3 post (nI r) lo hi f o G V ng nc gc tg tc vc va (d + 1) (nI m) := by
  intro d
  have g4 := (hg r).2
  have hin : vp_in (nI r) 12 := vp_in_nI hr (by decide)
  induction d with
  | zero =>
    intro m hd H1 H0
    obtain rfl : m = g r := by omega
    unfold wX_recordReaches_3
    rw [nI_clamp (n := r) (by omega), (hg r).1]
    exact ⟨hin, br_t (nI_le (Nat.le_refl _) (by omega)) (H0 dr_E0)⟩
  | succ d ih =>
    intro m hd H1 H0
    unfold wX_recordReaches_3
    rw [nI_clamp (n := r) (by omega), (hg r).1]
    refine ⟨hin, br_f (nI_ge (by omega) (by omega)) (dr_gs (dr_xgr (by omega) hc (fun h => ?_) (fun h => ?_)))⟩
    · exact br_f dr_10 (H1 (dr_Eh (by omega) h))
    · exact br_t rfl (nm_r (nI_1 m) (ih (m + 1) (by omega) (fun q => H1 (dr_Es q)) (fun q => H0 (dr_En h q))))
theorem dr_xrr (hr : r < 12) (hg : ∀ j, gc j = nI (g j) ∧ g j ≤ 4) (hc : ∀ j, vc j = nI (c j) ∧ c j ≤ 4) (H1 : dr_E (dr_WX va c lo hi r) 0 (g r) → post 1) (H0 : ¬ dr_E (dr_WX va c lo hi r) 0 (g r) → post 0) : wpX_recordReaches post (f, o, G, V, ng, nc, gc, tg, tc, vc, va) (nI r) lo hi := by
  unfold wpX_recordReaches
  dsimp only
  exact ⟨g r + 1, dr_xq3 hr hg hc (g r) 0 (by omega) H1 H0⟩
def dr_WY (va : Nat → Int32) (g c : Nat → Nat) (lo hi : Int32) (r i : Nat) : Prop := i / 4 < g r ∧ i % 4 < c (4 * r + i / 4) ∧ dr_hit va lo hi (16 * r + i)
theorem dr_y3 (hr : r < 12) (hg : ∀ j, gc j = nI (g j) ∧ g j ≤ 4) (hc : ∀ j, vc j = nI (c j) ∧ c j ≤ 4) : ∀ d i : Nat, i + d = 16 → (dr_E (dr_WY va g c lo hi r) i 16 → post 1) → (¬ dr_E (dr_WY va g c lo hi r) i 16 → post 0) → wY_holds_3 post (nI r) lo hi f o G V ng ns gc tg ts vc va (d + 1) (nI i) := by
  intro d
  have g4 := (hg r).2
  have hin : vp_in (nI r) 12 := vp_in_nI hr (by decide)
  induction d with
  | zero =>
    intro i hd H1 H0
    obtain rfl : i = 16 := by omega
    unfold wY_holds_3
    exact br_t (nI_le (a := 16) (Nat.le_refl _) (by decide)) (H0 dr_E0)
  | succ d ih =>
    intro i hd H1 H0
    have c4 := (hc (4 * r + i / 4)).2
    have hv : vp_in (nI (16 * r + i)) 192 := vp_in_nI (by omega) (by decide)
    have N : ¬ dr_WY va g c lo hi r i → wY_holds_3 post (nI r) lo hi f o G V ng ns gc tg ts vc va (d + 1) (nI (i + 1)) := fun w => ih (i + 1) (by omega) (fun h => H1 (dr_Es h)) (fun h => H0 (dr_En w h))
    unfold wY_holds_3
    refine br_f (nI_ge (b := 16) (by omega) (by decide)) ⟨dr_40, hin, ?_⟩
    unfold wY_holds_47 wY_holds_48
    rw [dr_d4 (i := i) (by omega), dr_r4 (by omega), dr_sr, dr_16i, nI_clamp (n := r) (by omega), nI_clamp (n := 4 * r + i / 4) (by omega), nI_clamp (n := 16 * r + i) (by omega), (hg r).1, (hc (4 * r + i / 4)).1]
    by_cases q : g r ≤ i / 4
    · exact br_t (nI_le q (by omega)) ⟨hv, nm_e (br_t rfl (nm_r (nI_1 i) (N (fun w => by have := w.1; omega))))⟩
    · refine br_f (nI_ge (by omega) (by omega)) ⟨dr_40, dr_40, vp_in_nI (by omega) (by decide), ?_⟩
      by_cases q2 : c (4 * r + i / 4) ≤ i % 4
      · exact br_t (nI_le q2 (by omega)) ⟨hv, nm_e (br_t rfl (nm_r (nI_1 i) (N (fun w => by have := w.2.1; omega))))⟩
      · refine br_f (nI_ge (by omega) (by omega)) ⟨hv, nm_e (br_f dr_10 ?_)⟩
        by_cases z : va (16 * r + i) < lo
        · exact br_t z (nm_r (nI_1 i) (N (fun w => w.2.2.1 z)))
        · by_cases z2 : hi < va (16 * r + i)
          · exact br_f z (br_t z2 (nm_r (nI_1 i) (N (fun w => w.2.2.2 z2))))
          · exact br_f z (br_f z2 (H1 (dr_Eh (by omega) ⟨by omega, by omega, z, z2⟩)))
theorem dr_yh (hr : r < 12) (hg : ∀ j, gc j = nI (g j) ∧ g j ≤ 4) (hc : ∀ j, vc j = nI (c j) ∧ c j ≤ 4) (H1 : dr_E (dr_WY va g c lo hi r) 0 16 → post 1) (H0 : ¬ dr_E (dr_WY va g c lo hi r) 0 16 → post 0) : wpY_holds post (f, o, G, V, ng, ns, gc, tg, ts, vc, va) (nI r) lo hi := by
  unfold wpY_holds
  dsimp only
  exact ⟨17, dr_y3 hr hg hc 16 0 rfl H1 H0⟩
theorem dr_xy (hg : ∀ j, gc j = nI (g j) ∧ g j ≤ 4) (hc : ∀ j, vc j = nI (c j) ∧ c j ≤ 4) : dr_E (dr_WX va c lo hi r) 0 (g r) ↔ dr_E (dr_WY va g c lo hi r) 0 16 := by
  have g4 := (hg r).2
  constructor
  · intro ⟨m, _, hm, j, _, hj, h⟩
    have c4 := (hc (4 * r + m)).2
    have e1 : (4 * m + j) / 4 = m := by omega
    have e2 : (4 * m + j) % 4 = j := by omega
    have e3 : 16 * r + (4 * m + j) = 4 * (4 * r + m) + j := by omega
    refine ⟨4 * m + j, by omega, by omega, ?_⟩
    unfold dr_WY
    rw [e1, e2, e3]
    exact ⟨hm, hj, h⟩
  · intro ⟨i, _, _, h1, h2, h3⟩
    refine ⟨i / 4, by omega, h1, i % 4, by omega, h2, ?_⟩
    show dr_hit va lo hi (4 * (4 * r + i / 4) + i % 4)
    rw [show 4 * (4 * r + i / 4) + i % 4 = 16 * r + i by omega]
    exact h3
theorem dr_rw (hb : b ≤ 1) (he : e ≤ 12) (hg : ∀ j, gc j = nI (g j) ∧ g j ≤ 4) (hc : ∀ j, vc j = nI (c j) ∧ c j ≤ 4) : ∀ (d r : Nat) (x : Int32), r + d = e → ∃ y : Int32, (∀ post : Int32 → Prop, post y → wX_recordsWith_5 post lo hi (nI e) o G V ng nc gc tg tc vc va (d + 1) x (nI r)) ∧ (∀ post : Int32 → Prop, post y → wY_recordsWith_5 post lo hi (nI (e + b)) (nI b) G V ng ns gc tg ts vc va (d + 1) x (nI r)) := by
  intro d
  induction d with
  | zero =>
    intro r x hd
    obtain rfl : r = e := by omega
    have h := nI_le (Nat.le_refl r) (show r < 2 ^ 31 by omega)
    refine ⟨x, fun post H => ?_, fun post H => ?_⟩
    · unfold wX_recordsWith_5
      exact br_t h H
    · unfold wY_recordsWith_5
      exact dr_ye hb (br_t h H)
  | succ d ih =>
    intro r x hd
    have h : ¬ nI e ≤ nI r := nI_ge (by omega) (by omega)
    by_cases q : dr_E (dr_WX va c lo hi r) 0 (g r)
    · obtain ⟨y, hX, hY⟩ := ih (r + 1) (x + 1) (by omega)
      refine ⟨y, fun post H => ?_, fun post H => ?_⟩
      · unfold wX_recordsWith_5
        exact br_f h (dr_xrr (by omega) hg hc (fun _ => br_f dr_10 (nm_e (nm_r (nI_1 r) (hX post H)))) (fun n => absurd q n))
      · unfold wY_recordsWith_5
        exact dr_ye hb (br_f h (dr_yh (by omega) hg hc (fun _ => br_f dr_10 (nm_e (nm_r (nI_1 r) (hY post H)))) (fun n => absurd ((dr_xy hg hc).mp q) n)))
    · obtain ⟨y, hX, hY⟩ := ih (r + 1) x (by omega)
      refine ⟨y, fun post H => ?_, fun post H => ?_⟩
      · unfold wX_recordsWith_5
        exact br_f h (dr_xrr (by omega) hg hc (fun n => absurd n q) (fun _ => br_t rfl (nm_r (nI_1 r) (hX post H))))
      · unfold wY_recordsWith_5
        exact dr_ye hb (br_f h (dr_yh (by omega) hg hc (fun n => absurd ((dr_xy hg hc).mpr n) q) (fun _ => br_t rfl (nm_r (nI_1 r) (hY post H)))))
end
end
section
section
theorem i_vc_recordsWith {k : Nat} {u : SX} {v : SY} (I : i_Rel k u v) (hk : k + 4 ≤ 2048) (v1 : Int32) (v2 : Int32) : wpX_recordsWith (fun r => wpY_recordsWith (fun r' => r' = r ∧ i_Rel (k + 4) u v) v v1 v2) u v1 v2 := by
  have K := i_up I
  obtain ⟨e, b, G, V, g, c, ng, nc, gc, tg, tc, vc, va, ns, ts, rfl, rfl, ⟨heb, hb, hG, hV⟩, hg, hc, hn, ht⟩ := I
  have he : e ≤ 12 := by omega
  unfold wpX_recordsWith wpY_recordsWith
  dsimp only
  obtain ⟨y, hX, hY⟩ := dr_rw (lo := v1) (hi := v2) (o := nI b) (G := nI G) (V := nI V) (ng := ng) (nc := nc) (tg := tg) (tc := tc) (va := va) (ns := ns) (ts := ts) hb he hg hc e 0 0 (by omega)
  exact ⟨e + 1, hX _ ⟨e + 1, hY _ ⟨rfl, K⟩⟩⟩
end
end
