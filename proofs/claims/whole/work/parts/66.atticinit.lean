section AI
variable {l : Launch} {G : gG}
theorem c_get {p : Program} {e : Env} {R : Room} {s : State} {m : MethodId} {args : Array Value} {below : List Frame} {meth : Method} {c : Code} {H : Heap} {locs : List Loc} {cells slots : Nat} {Q : State → Prop} {cc : ByteArray} {pc nL : Nat} {ls : Array Slot} {o : Nat} {own : String} {ret : Option FieldType} {L : List va_E} {i ci k idx : Nat} {fs rest : List Value} {v : Value} (K : gK p s m args meth c G cc nL own ret) (hS : cS G o L s H locs) (hF : gFl own idx ci k) (he : L[i]? = some (.inr (ci, fs))) (hv : vp_V fs k = v) (hd : decode cc pc = .ok (.getfield idx, 3))
    (kk : W p l e R s m args below meth c H locs cells slots Q (F0 m (pc + 3) ls (v :: rest))) : W p l e R s m args below meth c H locs cells slots Q (F0 m pc ls (.ref (o + i) :: rest)) := by
  obtain ⟨hx, hb, hml, hown, hts, hE, hr, hlk⟩ := K
  obtain ⟨C, T, n, h1, h2, h3, h4⟩ := hF
  have he' : (cw o L)[i]? = some (o + i, .inr (ci, fs)) := by rw [cw_get, he]; rfl
  sorry
end AI
