section IS
variable {l : Launch} {G : gG}
/-- a row of a world under construction is written by its own store -/
theorem c_store {p : Program} {e : Env} {R : Room} {s : State} {m : MethodId} {args : Array Value} {below : List Frame} {meth : Method} {c : Code} {H : Heap} {locs : List Loc} {cells slots : Nat} {Q : State → Prop} {cc : ByteArray} {pc nL : Nat} {ls : Array Slot} {o : Nat} {own : String} {ret : Option FieldType} {L : List va_E} {i k n idx : Nat} {x : Int32} {f : Nat → Int32} (K : gK p s m args meth c G cc nL own ret) (hls : ls.size = nL) (hS : cS G o L s H locs) (hcnt : s.heap.size + cells = o + L.length)
    (h0 : L[i]? = some (.inr (5, [.ref (o + (i + 1))]))) (h1 : L[i + 1]? = some (.inl (G.2 0, n, .inl f))) (hk : k < n) (hn : n < 2 ^ 31) (hL : gMV own idx yX5_store RX5 cX5_store 3 none 2) (hR : gR rmX5_store R 3) (hcs : cells ≤ R.cells ∧ slots ≤ R.slots) (hd : decode cc pc = .ok (.invokevirtual idx, 3))
    (kk : ∀ (H1 : Heap) (locs1 : List Loc), cS G o (L.set (i + 1) (.inl (G.2 0, n, .inl (upd f k x)))) s H1 locs1 → W p l e R s m args below meth c H1 locs1 cells slots Q (F0 m (pc + 3) ls [])) : W p l e R s m args below meth c H locs cells slots Q (F0 m pc ls [.int x, .int (nI k), .ref (o + i)]) := by
  obtain ⟨hP, hz, hV, hoz⟩ := hS
  have K2 := K
  obtain ⟨hx, hb, hml, hown, hts, hE, hr, hlk⟩ := K
  have g0 : (cw o L)[i]? = some (o + i, .inr (5, [.ref (o + (i + 1))])) := by rw [cw_get, h0]; rfl
  have g1 : (cw o L)[i + 1]? = some (o + (i + 1), .inl (G.2 0, n, .inl f)) := by rw [cw_get, h1]; rfl
  have hPR : gP G (entR G (o + i) n) (o + i) 2 (fun _ => f) H := by
    intro j q hj
    obtain ⟨hj2, rfl⟩ := gL_at hj
    rcases (show j = 0 ∨ j = 1 by omega) with rfl | rfl
    · exact hP i _ g0
    · exact hP (i + 1) _ g1
  have hf : f_X5_store 0 n (nI k) x (fun _ => f) = some (up2 (fun _ => f) (0 + 1) k x) := store_nI hk hn
  have hM := c_R_store (l := l) (G := G) (o := o + i) 0 n ⟨fun _ => rfl, fun _ => rfl, by decide, by decide⟩ (nI k) x (fun _ => f) _ hf
  have hrun := va_runV (p := p) (e := e) (R := R) (below := below) (meth := meth) (H := H) (locs := locs) (cells := cells) (slots := slots) (g := F0 m pc ls [.int x, .int (nI k), .ref (o + i)]) (As := [.int (nI k), .int x]) (rest := []) (b := o + i) ⟨hx, hb, hml, hown, hts⟩ hM ⟨g_callB K2 hL.2.2.2.2.1 hL.2.2.2.1 hL.1 hL.2.2.2.2.2 hR, hts _ hL.2.1, hts _ hL.2.2.1⟩ ⟨gPc_blind, va_recv (q := (RX5, TX5, 1)) hE.1 hP rfl g0, fun U hU hW => ⟨rfl, by rw [hU]; exact hPR, hE.warm hW⟩⟩ rfl rfl hls rfl (Nat.le_of_ble_eq_true rfl) hd hcs
  intro T hT X
  obtain ⟨v, st₀, t, T', L1, e0, X', hL1, e1, e2, ⟨⟨hv, hP1⟩, hF⟩, st⟩ := hrun T hT X
  cases hv
  have hup : T'.heap.size ≤ s.heap.size + cells := X'.same.2.2.1
  have hlo : H.size ≤ T'.heap.size := by rw [e1]; have := hF.1; rw [e0] at this; exact this
  have hkeep : ∀ q, q < H.size → ¬ gA (o + i) 2 q → T'.heap[q]? = H[q]? := fun q h1 h2 => by
    rw [e1, hF.2 q (by rw [e0]; exact h1) h2, e0]
  rw [← e1] at hP1
  obtain ⟨t2, a1, b1⟩ := kk T'.heap (locs ++ L1) ⟨by
      rw [cw_set]
      intro j q hj
      rw [List.getElem?_set] at hj
      by_cases hij : i + 1 = j
      · subst hij
        rw [if_pos rfl] at hj
        have hlen : i + 1 < (cw o L).length := (List.getElem?_eq_some_iff.mp g1).1
        rw [if_pos hlen] at hj
        cases hj
        have := hP1 1 _ (gL_get (c := 1) (by decide))
        simpa [entR, up2, gU, Nat.add_assoc] using this
      · rw [if_neg hij] at hj
        by_cases hji : j = i
        · subst hji
          rw [g0] at hj
          cases hj
          exact hP1 0 _ (gL_get (c := 0) (by decide))
        · have hq := cw_lt hj
          obtain ⟨ee, -, rfl⟩ := cw_at hj
          refine (hP j _ hj).kept (hkeep _ (by rw [hz]; exact hq) ?_)
          rintro ⟨w1, w2⟩
          have w1 : o + i ≤ o + j := w1
          have w2 : o + j < o + i + 2 := w2
          omega, by rw [List.length_set]; omega, ⟨by have := hV.1; omega, fun q h1 h2 => by
        have hqo : q < o := Nat.lt_of_not_le h2
        rw [hkeep q (by rw [hz]; omega) (fun z => absurd z.1 (by omega))]
        exact hV.2.1 q h1 h2, fun q hq => by
        rcases List.mem_append.mp hq with h | h
        · exact hV.2.2 q h
        · exact Nat.le_trans (Nat.le_add_right _ _) (hL1 q h).1⟩, hoz⟩ T' rfl X'
  exact ⟨t2, st t2 a1, b1⟩
end IS
