section SH
variable {p : Program} {l : Launch} {e : Env} {R : Room} {s : State} {m : MethodId} {args : Array Value} {below : List Frame} {meth : Method} {c : Code} {H : Heap} {locs : List Loc} {cells slots : Nat} {Q : State → Prop} {cc : ByteArray} {pc nL : Nat} {ls : Array Slot} {G : gG} {o : Nat} {own : String} {ret : Option FieldType} {L : List va_E} {rest : List Value}
/-- a row of attics is made -/
theorem c_newq {x : Int32} {N idx : Nat} (K : gK p s m args meth c G cc nL own ret) (hS : cS G o L s H locs) (hl : Cond.classLink own idx "CreakingGhosts$Attic" ∈ gT) (hov : (Cond.arrayOver (.object "CreakingGhosts$Attic")).before args s = true) (hn : ¬ x < 0) (hN : x.toNatClampNeg = N) (hby : N * 4 ≤ 536870912) (hcells : cells + 1 ≤ R.cells) (hslots : slots + N ≤ R.slots) (hd : decode cc pc = .ok (.anewarray idx, 3))
    (kk : ∀ (H1 : Heap), cS G o (L ++ [.inl (G.2 1, N, .inr (.inr (.inr (.inr fun _ => none))))]) s H1 locs → W p l e R s m args below meth c H1 locs (cells + 1) (slots + N) Q (F0 m (pc + 3) ls (.ref (o + L.length) :: rest))) : W p l e R s m args below meth c H locs cells slots Q (F0 m pc ls (.int x :: rest)) := by
  obtain ⟨hx, hb, hml, hown, hts, hE, hr, hlk⟩ := K
  obtain ⟨hP, hz, hV, hoz⟩ := hS
  subst hN
  refine W.anew hx hb hown (hts _ hl) hov rfl hd rfl hn hby hcells hslots fun cA kA comp f1 f2 f3 f4 => ?_
  obtain ⟨kA', comp', r1, r2, r3, r4⟩ := (hE.1.2 1 (G.2 1, .object "CreakingGhosts$Attic") rfl).2
  have hcA : cA = G.2 1 := Option.some.inj (f1.symm.trans r4)
  subst hcA
  rw [hz]
  generalize hH1 : H.push ({ cls := G.2 1, slots := Array.replicate x.toNatClampNeg .null, vm := .none } : Cell) = H1
  have z1 : H1.size = H.size + 1 := by rw [← hH1, Array.size_push]
  have e1 : H1[H.size]? = some (arrV (G.2 1) x.toNatClampNeg (fun _ => .null)) := by rw [← hH1, Array.getElem?_push_size, ← arrV_new]
  have o1 : ∀ q : Nat, q < H.size → H1[q]? = H[q]? := fun q hq => by rw [← hH1, Array.getElem?_push, if_neg (Nat.ne_of_lt hq)]
  refine kk H1 ⟨?_, by rw [z1, hz, List.length_append]; rfl, ⟨Nat.le_trans hV.1 (by omega), fun q h1 h2 => (o1 q (Nat.lt_of_lt_of_le h1 hV.1)).trans (hV.2.1 q h1 h2), hV.2.2⟩, hoz⟩
  rw [cw_app]
  refine (hP.kept fun k q hq => o1 q.1 (by rw [hz]; exact cw_lt hq)).app (fun k q hq => ?_)
  rw [cw_one] at hq
  have hz0 : k < 1 := (List.getElem?_eq_some_iff.mp hq).1
  rw [show k = 0 by omega] at hq
  cases hq
  show H1[o + L.length]? = some (vp_cell _ _)
  rw [vp_cell_q, ← hz]
  exact e1
end SH
