section
theorem pk_us {f : Nat → Int32} {k : Nat} {x : Int32} : upd f k x k = x := if_pos rfl
theorem pk_un {f : Nat → Int32} {k j : Nat} {x : Int32} (h : j ≠ k) : upd f k x j = f j := if_neg h
theorem pk_sub {a b : Nat} (h : b ≤ a) : nI a - nI b = nI (a - b) := by
  obtain ⟨c, rfl⟩ : ∃ c, a = c + b := ⟨a - b, by omega⟩
  rw [← nI_add, Int32.add_sub_cancel, Nat.add_sub_cancel]
theorem pk_mul (a b : Nat) : nI a * nI b = nI (a * b) := (Int32.ofNat_mul a b).symm
theorem pk_div {a d : Nat} (ha : a < 2 ^ 31) (h0 : 0 < d) (hd : d < 2 ^ 31) : nI a / nI d = nI (a / d) := by
  apply Int32.toInt_inj.mp
  rw [lg_idiv_nonneg (by rw [nI_toInt ha]; omega) (by rw [nI_toInt hd]; omega), nI_toInt ha, nI_toInt hd, nI_toInt (Nat.lt_of_le_of_lt (Nat.div_le_self a d) ha)]
  first | rfl | exact (Int.natCast_ediv _ _).symm
theorem pk_rem {a d : Nat} (ha : a < 2 ^ 31) (h0 : 0 < d) (hd : d < 2 ^ 31) : nI a - nI a / nI d * nI d = nI (a % d) := by
  rw [pk_div ha h0 hd, pk_mul, pk_sub (Nat.div_mul_le_self a d)]
  exact congrArg nI (by have := Nat.div_add_mod' a d; omega)
theorem pk_ix (x : Int32) {n : Nat} (hn : n < 2 ^ 31) : x < 0 ∨ nI n ≤ x ∨ ∃ j : Nat, j < n ∧ x = nI j := by
  by_cases h : x < 0
  · exact Or.inl h
  · obtain ⟨j, hj, rfl⟩ := nI_of h
    by_cases h2 : j < n
    · exact Or.inr (Or.inr ⟨j, h2, rfl⟩)
    · exact Or.inr (Or.inl (nI_le (by omega) hj))
theorem dr_sl (r m : Nat) : nI r * 4 + nI m = nI (4 * r + m) := by
  show nI r * nI 4 + nI m = _
  rw [pk_mul, nI_add, Nat.mul_comm]
theorem dr_sr (r m : Nat) : 4 * nI r + nI m = nI (4 * r + m) := by
  show nI 4 * nI r + nI m = _
  rw [pk_mul, nI_add]
theorem dr_4e (r : Nat) : 4 * nI r = nI (4 * r) := by
  show nI 4 * nI r = _
  rw [pk_mul]
theorem dr_16 (r m i : Nat) : 16 * nI r + 4 * nI m + nI i = nI (4 * (4 * r + m) + i) := by
  show nI 16 * nI r + nI 4 * nI m + nI i = _
  rw [pk_mul, pk_mul, nI_add, nI_add]
  exact congrArg nI (by omega)
theorem dr_16i (r i : Nat) : 16 * nI r + nI i = nI (16 * r + i) := by
  show nI 16 * nI r + nI i = _
  rw [pk_mul, nI_add]
theorem dr_d4 {i : Nat} (h : i < 2 ^ 31) : nI i / 4 = nI (i / 4) := pk_div (d := 4) h (by decide) (by decide)
theorem dr_r4 {i : Nat} (h : i < 2 ^ 31) : nI i - nI (i / 4) * 4 = nI (i % 4) := by
  rw [← dr_d4 h]
  exact pk_rem (d := 4) h (by decide) (by decide)
theorem dr_b0 : vp_nar .boolean 0 = 0 := by rfl
theorem dr_b1 : vp_nar .boolean 1 = 1 := by rfl
theorem dr_10 : ¬ (1 : Int32) = 0 := by decide
theorem dr_40 : ¬ (4 : Int32) = 0 := by decide
/-- what the two states share, beside the arrays that are the same function on both sides -/
def dr_Ok (e b G V : Nat) (g c : Nat → Nat) (ng nc gc tg tc vc ns ts : Nat → Int32) : Prop :=
  (e + b ≤ 12 ∧ b ≤ 1 ∧ G ≤ 40 ∧ V ≤ 60) ∧ (∀ j, gc j = nI (g j) ∧ g j ≤ 4) ∧ (∀ j, vc j = nI (c j) ∧ c j ≤ 4) ∧ (∀ j, ns j = if ng j = 0 then 0 else nc j) ∧ (∀ j, ts j = if tg j = 0 then 0 else tc j)
/-- the same columns; labels not given are 0 in the reference; its records count the one that is being built too -/
def i_Rel (_ : Nat) (u : SX) (v : SY) : Prop := ∃ (e b G V : Nat) (g c : Nat → Nat) (ng nc gc tg tc vc va ns ts : Nat → Int32), u = (nI e, nI b, nI G, nI V, ng, nc, gc, tg, tc, vc, va) ∧ v = (nI (e + b), nI b, nI G, nI V, ng, ns, gc, tg, ts, vc, va) ∧ dr_Ok e b G V g c ng nc gc tg tc vc ns ts
theorem i_up {k : Nat} {u : SX} {v : SY} (h : i_Rel k u v) : i_Rel (k + 4) u v := h
theorem i_vc0 : wpX_init (fun u => wpY_init (fun v => i_Rel 0 u v)) := by
  refine ⟨0, 0, 0, 0, fun _ => 0, fun _ => 0, fun _ => 0, fun _ => 0, fun _ => 0, fun _ => 0, fun _ => 0, fun _ => 0, fun _ => 0, fun _ => 0, fun _ => 0, rfl, rfl, ?_⟩
  exact ⟨by decide, fun j => ⟨rfl, Nat.zero_le 4⟩, fun j => ⟨rfl, Nat.zero_le 4⟩, fun j => (if_pos rfl).symm, fun j => (if_pos rfl).symm⟩
end
