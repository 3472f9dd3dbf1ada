section
theorem i_vc_recordsWith {k : Nat} {u : SX} {v : SY} (I : i_Rel k u v) (hk : k + 4 ≤ 2048) (v1 : Int32) (v2 : Int32) : wpX_recordsWith (fun r => wpY_recordsWith (fun r' => r' = r ∧ i_Rel (k + 4) u v) v v1 v2) u v1 v2 := by
  have K := i_up I
  obtain ⟨e, b, G, V, g, c, ng, nc, gc, tg, tc, vc, va, ns, ts, rfl, rfl, ⟨heb, hb, hG, hV⟩, hg, hc, hn, ht⟩ := I
  have he : e ≤ 12 := by omega
  unfold wpX_recordsWith wpY_recordsWith
  dsimp only
  obtain ⟨y, hX, hY⟩ := dr_rw (lo := v1) (hi := v2) (o := nI b) (G := nI G) (V := nI V) (ng := ng) (nc := nc) (tg := tg) (tc := tc) (va := va) (ns := ns) (ts := ts) hb he hg hc e 0 0 (by omega)
  exact ⟨e + 1, hX _ ⟨e + 1, hY _ ⟨rfl, K⟩⟩⟩
end
