/-! the law's own rows: five arrays behind the class's cells, and arrays elsewhere that are only read -/
def lenL (c : Nat) : Nat := match c with
  | 302 => 20
  | 303 => 20
  | 304 => 12
  | 305 => 20
  | _ => 6
def entL (G : gG) (o c : Nat) (f : Nat → Int32) : va_E := if c < 302 then entX G o c f else .inl (G.2 0, lenL c, .inl f)
theorem eLL_302 (G : gG) (o : Nat) : ∀ f, entL G o 302 f = .inl (G.2 0, 20, .inl f) := fun _ => rfl
theorem eLL_303 (G : gG) (o : Nat) : ∀ f, entL G o 303 f = .inl (G.2 0, 20, .inl f) := fun _ => rfl
theorem eLL_304 (G : gG) (o : Nat) : ∀ f, entL G o 304 f = .inl (G.2 0, 12, .inl f) := fun _ => rfl
theorem eLL_305 (G : gG) (o : Nat) : ∀ f, entL G o 305 f = .inl (G.2 0, 20, .inl f) := fun _ => rfl
theorem eLL_306 (G : gG) (o : Nat) : ∀ f, entL G o 306 f = .inl (G.2 0, 6, .inl f) := fun _ => rfl
theorem entL_lt (G : gG) (o : Nat) {c : Nat} (h : c < 302) (f : Nat → Int32) : entL G o c f = entX G o c f := if_pos h
abbrev kA : Type := Nat × Nat × (Nat → Int32)
def kX (o : Nat) (X : List kA) (s : State) (H : Heap) : Prop := ∀ x ∈ X, ¬ gA o 307 x.1 ∧ va_X x.1 x.2.1 x.2.2 s H
theorem va_X.lt {b L : Nat} {xs : Nat → Int32} {U : State} {H : Heap} (h : va_X b L xs U H) : b < H.size := (Array.getElem?_eq_some_iff.mp h.choose_spec.1).1
theorem kX.kept {o : Nat} {X : List kA} {s : State} {H H1 : Heap} (h : kX o X s H) (hk : ∀ q, q < H.size → ¬ gA o 307 q → H1[q]? = H[q]?) : kX o X s H1 := fun x hx => ⟨(h x hx).1, (h x hx).2.kept (hk _ (h x hx).2.lt (h x hx).1)⟩
theorem kX.moved {o : Nat} {X : List kA} {s U : State} {H : Heap} (hvm : s.vm.Alike U.vm) (h : kX o X s H) : kX o X U H := fun x hx => ⟨(h x hx).1, (h x hx).2.moved hvm⟩
theorem kX.sub {o : Nat} {X Y : List kA} {s : State} {H : Heap} (h : kX o X s H) (hs : ∀ x ∈ Y, x ∈ X) : kX o Y s H := fun x hx => h x (hs x hx)
theorem kX.app {o : Nat} {X Y : List kA} {s : State} {H : Heap} (h : kX o X s H) (h2 : kX o Y s H) : kX o (X ++ Y) s H := fun x hx => (List.mem_append.mp hx).elim (h x) (h2 x)
theorem kX.nil {o : Nat} {s : State} {H : Heap} : kX o [] s H := fun x hx => absurd hx List.not_mem_nil
/-- a row of ints that is the machine's newest is one to read -/
theorem kX.one {G : gG} {o q n : Nat} {f : Nat → Int32} {s : State} {H : Heap} (hE : gEnv G s) (hq : ¬ gA o 307 q) (h : va_P G.1 gCls [(q, .inl (G.2 0, n, .inl f))] H) : kX o [(q, n, f)] s H := fun x hx => by
  rw [List.mem_singleton] at hx
  subst hx
  refine ⟨hq, arrV (G.2 0) n (fun j => .int (f j)), h 0 _ rfl, (hE.1.2 0 _ rfl).1 n (fun j => .int (f j)), (fun q => by cases q), arrV_size .., fun j hj => ?_⟩
  exact arrV_read _ _ hj
def hSt (G : gG) (o : Nat) (X : List kA) (s : State) (σ : gS) (H : Heap) (locs : List Loc) : Prop := gSt G (entL G o) o 307 s σ H locs ∧ kX o X s H
theorem hSt.pre {G : gG} {o : Nat} {X Y : List kA} {s : State} {σ : gS} {H : Heap} {locs : List Loc} (h : hSt G o (X ++ Y) s σ H locs) : hSt G o X s σ H locs := ⟨h.1, h.2.sub fun _ hx => List.mem_append_left _ hx⟩
def hPc (G : gG) (o : Nat) (X : List kA) (av : List Value) (σ : gS) : Array Value → State → Prop := va_Pc av (fun U => (gP G (entL G o) o 307 σ U.heap ∧ kX o X U U.heap) ∧ gEnv G U)
abbrev hQi (G : gG) (o : Nat) (q : Int32 × gS) : Array Value → State → Outcome → State → Prop := gQi G (entL G o) o 307 q
def hQr (G : gG) (o : Nat) (σ : gS) (D : Nat → Int32) : Array Value → State → Outcome → State → Prop := fun _ st oc t => (∃ q, oc = .returned (some (.ref q)) ∧ gP G (entL G o) o 307 σ t.heap ∧ ¬ gA o 307 q ∧ va_P G.1 gCls [(q, .inl (G.2 0, 10, .inl D))] t.heap) ∧ va_F (gA o 307) st t
theorem hPc_blind {G : gG} {o : Nat} {X : List kA} {av : List Value} {σ : gS} : FrameBlind (hPc G o X av σ) := by
  intro a U g mk q
  obtain ⟨q0, q1, q2, q3⟩ := q
  have hb := gPc_blind (G := G) (ent := fun _ _ => .inr (0, [])) (o := 0) (N := 0) (av := av) (σ := fun _ _ => 0) a U g mk ⟨q0, fun k q hk => absurd hk (by simp [gL]), q2, q3⟩
  exact ⟨q0, ⟨q1.1, q1.2.moved (Vm.Alike.refl U.vm)⟩, hb.2.2.1, hb.2.2.2⟩
/-- the class's part is exchanged -/
def gMix (σ τ : gS) : gS := fun c => if c < 302 then τ c else σ c
theorem gMix_lt {σ τ : gS} {c : Nat} (h : c < 302) : gMix σ τ c = τ c := if_pos h
theorem gMix_ge {σ τ : gS} {c : Nat} (h : 302 ≤ c) : gMix σ τ c = σ c := if_neg (by omega)
theorem gL_low {G : gG} {o : Nat} {σ : gS} {H : Heap} (h : gP G (entL G o) o 307 σ H) : gP G (entX G o) o 302 σ H := fun k q hk => by
  obtain ⟨hk2, rfl⟩ := gL_at hk
  have := h k _ (gL_get (ent := entL G o) (o := o) (N := 307) (σ := σ) (c := k) (by omega))
  rwa [entL_lt G o hk2] at this
theorem gL_mix {G : gG} {o : Nat} {σ τ : gS} {H H1 : Heap} (h : gP G (entL G o) o 307 σ H) (h1 : gP G (entX G o) o 302 τ H1) (hk : ∀ q, q < H.size → ¬ gA o 302 q → H1[q]? = H[q]?) : gP G (entL G o) o 307 (gMix σ τ) H1 := by
  have hh : va_P G.1 gCls ((gL (entL G o) o 307 σ).drop 302) H1 := by
    refine va_P.kept (fun k q hq => ?_) (H := H) fun k w hw => ?_
    · rw [List.getElem?_drop] at hq
      exact h (302 + k) q hq
    · rw [List.getElem?_drop] at hw
      have hl := (h (302 + k) w hw).lt
      obtain ⟨hc, rfl⟩ := gL_at hw
      exact hk _ hl fun z => absurd z.2 (by omega)
  intro k q hq
  obtain ⟨hk7, rfl⟩ := gL_at hq
  by_cases hlt : k < 302
  · have := h1 k _ (gL_get (ent := entX G o) (o := o) (N := 302) (σ := τ) (c := k) hlt)
    rw [entL_lt G o hlt, gMix_lt hlt]
    exact this
  · have := hh (k - 302) (o + k, entL G o k (σ k)) (by
      rw [List.getElem?_drop, show 302 + (k - 302) = k by omega]
      exact gL_get hk7)
    rw [gMix_ge (by omega)]
    exact this
theorem va_S_at {A : Nat → Prop} {H0 H : Heap} {locs : List Loc} (h : va_S A H0 H locs) : va_S A H H locs := ⟨Nat.le_refl _, fun _ _ _ => rfl, h.2.2⟩
theorem va_S_tr {A : Nat → Prop} {H0 H H1 : Heap} {locs locs1 : List Loc} (h : va_S A H0 H locs) (h1 : va_S A H H1 locs1) : va_S A H0 H1 locs1 := ⟨Nat.le_trans h.1 h1.1, fun q a b => (h1.2.1 q (Nat.lt_of_lt_of_le a h.1) b).trans (h.2.1 q a b), h1.2.2⟩
theorem gU_ne {σ : gS} {c d : Nat} {f : Nat → Int32} (h : d ≠ c) : gU σ c f d = σ d := by simp [gU, h]
theorem gU_at {σ : gS} {c : Nat} {f : Nat → Int32} : gU σ c f c = f := by simp [gU]
section HR
variable {p : Program} {l : Launch} {e : Env} {R : Room} {s : State} {m : MethodId} {args : Array Value} {below : List Frame} {meth : Method} {c : Code} {H : Heap} {locs : List Loc} {cells slots : Nat} {Q : State → Prop}
variable {cc : ByteArray} {pc nL : Nat} {ls : Array Slot} {rest st0 : List Value} {G : gG} {o : Nat} {σ : gS} {own : String} {ret : Option FieldType} {X : List kA}
theorem h_iald {cx n j : Nat} {i : Int32} (K : gK p s m args meth c G cc nL own ret) (hS : hSt G o X s σ H locs) (he : ∀ f, entL G o cx f = .inl (G.2 0, n, .inl f)) (hc : cx < 307) (hin : gin i n = true) (hj : gil i = j) (hd : decode cc pc = .ok (.iaload, 1))
    (kk : W p l e R s m args below meth c H locs cells slots Q (F0 m (pc + 1) ls (.int (σ cx j) :: rest))) : W p l e R s m args below meth c H locs cells slots Q (F0 m pc ls (.int i :: .ref (o + cx) :: rest)) :=
  g_iald K hS.1 he hc hin hj hd kk
theorem h_iast {cx n j : Nat} {i x : Int32} (K : gK p s m args meth c G cc nL own ret) (hS : hSt G o X s σ H locs) (he : ∀ f, entL G o cx f = .inl (G.2 0, n, .inl f)) (hc : cx < 307) (hin : gin i n = true) (hj : gil i = j) (hd : decode cc pc = .ok (.iastore, 1))
    (kk : ∀ (H1 : Heap) (locs1 : List Loc), hSt G o X s (up2 σ cx j x) H1 locs1 → W p l e R s m args below meth c H1 locs1 cells slots Q (F0 m (pc + 1) ls rest)) : W p l e R s m args below meth c H locs cells slots Q (F0 m pc ls (.int x :: .int i :: .ref (o + cx) :: rest)) := by
  subst hj
  obtain ⟨hx, hb, hml, hown, hts, hE, hr, hlk⟩ := K
  obtain ⟨⟨hP, hV⟩, hX⟩ := hS
  refine va_iast hx hb hE.1 hP gL_D (va_S_at hV) cx 0 ((gL_get hc).trans (by rw [he])) rfl (gin_in hin) hd (fun H1 locs1 a1 a2 a3 => kk H1 locs1 ⟨⟨?_, va_S_tr hV a3⟩, hX.kept a3.2.1⟩)
  rw [← he, gL_set hc] at a1
  exact a1
/-- an array elsewhere is read -/
theorem h_ild {q n : Nat} {f : Nat → Int32} {i : Int32} (K : gK p s m args meth c G cc nL own ret) (hS : hSt G o X s σ H locs) (hm : (q, n, f) ∈ X) (hin : gin i n = true) (hd : decode cc pc = .ok (.iaload, 1))
    (kk : W p l e R s m args below meth c H locs cells slots Q (F0 m (pc + 1) ls (.int (f (gil i)) :: rest))) : W p l e R s m args below meth c H locs cells slots Q (F0 m pc ls (.int i :: .ref q :: rest)) := by
  obtain ⟨hx, hb, hml, hown, hts, hE, hr, hlk⟩ := K
  exact va_sld hx hb (hS.2 _ hm).2 (hS.2 _ hm).2.lt (hS.2 _ hm).1 (va_S_at hS.1.2) (gin_in hin) hd kk
theorem h_ilen {q n : Nat} {f : Nat → Int32} (K : gK p s m args meth c G cc nL own ret) (hS : hSt G o X s σ H locs) (hm : (q, n, f) ∈ X) (hd : decode cc pc = .ok (.arraylength, 1))
    (kk : W p l e R s m args below meth c H locs cells slots Q (F0 m (pc + 1) ls (.int (Int32.ofNat n) :: rest))) : W p l e R s m args below meth c H locs cells slots Q (F0 m pc ls (.ref q :: rest)) := by
  obtain ⟨hx, hb, hml, hown, hts, hE, hr, hlk⟩ := K
  exact va_slen hx hb (hS.2 _ hm).2 (hS.2 _ hm).2.lt (hS.2 _ hm).1 (va_S_at hS.1.2) hd kk
/-- the newest array elsewhere, that is still written -/
def hNw (G : gG) (o q n : Nat) (f : Nat → Int32) (s : State) (σ : gS) (H : Heap) (locs : List Loc) : Prop := s.heap.size ≤ q ∧ hSt G o [] s σ H locs ∧ ¬ gA o 307 q ∧ va_P G.1 gCls [(q, .inl (G.2 0, n, .inl f))] H
theorem va_P.kept1 {G : gG} {q : Nat} {e : va_E} {H H1 : Heap} (h : va_P G.1 gCls [(q, e)] H) (hk : q < H.size → H1[q]? = H[q]?) : va_P G.1 gCls [(q, e)] H1 := va_P.kept h fun k w hw => by
  have hl := (h k w hw).lt
  have hk0 : k < 1 := (List.getElem?_eq_some_iff.mp hw).1
  rw [show k = 0 by omega] at hw
  cases hw
  exact hk hl
/-- the newest array elsewhere is written -/
theorem h_ist {q n : Nat} {f : Nat → Int32} {i x : Int32} (K : gK p s m args meth c G cc nL own ret) (hS : hNw G o q n f s σ H locs) (hin : gin i n = true) (hd : decode cc pc = .ok (.iastore, 1))
    (kk : ∀ (H1 : Heap), hNw G o q n (upd f (gil i) x) s σ H1 locs → W p l e R s m args below meth c H1 locs cells slots Q (F0 m (pc + 1) ls rest)) : W p l e R s m args below meth c H locs cells slots Q (F0 m pc ls (.int x :: .int i :: .ref q :: rest)) := by
  obtain ⟨hx, hb, hml, hown, hts, hE, hr, hlk⟩ := K
  obtain ⟨hq, ⟨⟨hP, hV⟩, hX⟩, hqA, hqP⟩ := hS
  refine W.iast hx hb (hqP 0 _ rfl) ((hE.1.2 0 _ rfl).1 n (fun j => .int (f j))) (fun q => by cases q) (by show ¬ (i < 0 ∨ (arrV _ _ _).slots.size ≤ _); rw [arrV_size]; exact gin_in hin) rfl rfl hd fun H1 e1 z oq => ?_
  have hW : W p l e R s m args below meth c H1 locs cells slots Q (F0 m (pc + 1) ls rest) := by
    refine kk H1 ⟨hq, ⟨⟨va_P.kept hP fun k w hw => ?_, ⟨by rw [z]; exact hV.1, fun r h1 h2 => (oq r (by show r ≠ q; omega)).trans (hV.2.1 r h1 h2), hV.2.2⟩⟩, kX.nil⟩, hqA, fun k w hw => ?_⟩
    · obtain ⟨hk, rfl⟩ := gL_at hw
      refine oq _ fun h => hqA ?_
      rw [show q = o + k from h.symm]
      exact ⟨Nat.le_add_right _ _, Nat.add_lt_add_left hk _⟩
    · have h1 : k < 1 := (List.getElem?_eq_some_iff.mp hw).1
      rw [show k = 0 by omega] at hw
      cases hw
      show H1[q]? = some (vp_cell _ _)
      rw [e1]
      rw [vp_cell_i, vp_cell_i, arrV_store]
      congr 2
      funext j
      by_cases hj : j = i.toNatClampNeg
      · subst hj
        simp [updV, upd, gil]
      · simp [updV, upd, gil, hj]
  exact fun T hT Y => hW T hT (Stand.forget (locs := locs) Y (fun y hy => by rw [List.mem_singleton] at hy; rw [hy]; exact hq))
/-- a row of ten ints is made -/
theorem h_newi {x : Int32} {n : Nat} (K : gK p s m args meth c G cc nL own ret) (hS : hSt G o [] s σ H locs) (ha : Cond.arrayClass .int ∈ gT) (hn : ¬ x < 0) (hN : x.toNatClampNeg = n) (hby : n * componentBytes .int ≤ 536870912) (hcells : cells + 1 ≤ R.cells) (hslots : slots + n ≤ R.slots) (hd : decode cc pc = .ok (.newarray .int, 2))
    (kk : ∀ (q : Nat) (H1 : Heap), hNw G o q n (fun _ => 0) s σ H1 locs → W p l e R s m args below meth c H1 locs (cells + 1) (slots + n) Q (F0 m (pc + 2) ls (.ref q :: rest))) : W p l e R s m args below meth c H locs cells slots Q (F0 m pc ls (.int x :: rest)) := by
  obtain ⟨hx, hb, hml, hown, hts, hE, hr, hlk⟩ := K
  obtain ⟨⟨hP, hV⟩, hX⟩ := hS
  refine va_newaK (atype := .int) hx hb (hts _ ha) rfl hd rfl hn hN hby hcells hslots rfl fun H1 cA e1 z1 o1 hAr hNm => ?_
  have hcA : cA = G.2 0 := Option.some.inj (hNm.symm.trans (hE.1.2 0 _ rfl).2)
  subst hcA
  refine kk H.size H1 ⟨hV.1, ⟨⟨va_P.kept hP fun k w hw => o1 _ (hP k w hw).lt, ⟨Nat.le_trans hV.1 (by omega), fun r h1 h2 => (o1 r (Nat.lt_of_lt_of_le h1 hV.1)).trans (hV.2.1 r h1 h2), hV.2.2⟩⟩, kX.nil⟩, fun z => ?_, fun k w hw => ?_⟩
  · have hl := (hP 306 _ (gL_get (by decide))).lt
    have h1 : o ≤ H.size := z.1
    have h2 : H.size < o + 307 := z.2
    have h3 := (hP (H.size - o) _ (gL_get (c := H.size - o) (by omega))).lt
    have h4 : o + (H.size - o) < H.size := h3
    omega
  · have h1 : k < 1 := (List.getElem?_eq_some_iff.mp hw).1
    rw [show k = 0 by omega] at hw
    cases hw
    exact e1
/-! the method that makes the row of costs: the row is row 307 of the state -/
theorem gL_307 {G : gG} {o : Nat} {σ : gS} {f : Nat → Int32} : gL (entL G o) o 307 (gU σ 307 f) = gL (entL G o) o 307 σ := by
  unfold gL
  refine List.map_congr_left fun k hk => ?_
  have := List.mem_range.mp hk
  rw [gU_ne (by omega)]
def hS7 (G : gG) (o q : Nat) (s : State) (σ : gS) (H : Heap) (locs : List Loc) : Prop := hNw G o q 10 (σ 307) s σ H locs
theorem gP_307 {σ : gS} {f : Nat → Int32} (h : gP G (entL G o) o 307 σ H) : gP G (entL G o) o 307 (gU σ 307 f) H := by
  show va_P G.1 gCls (gL (entL G o) o 307 (gU σ 307 f)) H
  rw [gL_307]
  exact h
theorem h7_newi {x : Int32} (K : gK p s m args meth c G cc nL own ret) (hS : hSt G o [] s σ H locs) (ha : Cond.arrayClass .int ∈ gT) (hxx : x = 10) (hcells : cells + 1 ≤ R.cells) (hslots : slots + 10 ≤ R.slots) (hd : decode cc pc = .ok (.newarray .int, 2))
    (kk : ∀ (q : Nat) (H1 : Heap), hS7 G o q s (gU σ 307 fun _ => 0) H1 locs → W p l e R s m args below meth c H1 locs (cells + 1) (slots + 10) Q (F0 m (pc + 2) ls (.ref q :: rest))) : W p l e R s m args below meth c H locs cells slots Q (F0 m pc ls (.int x :: rest)) := by
  subst hxx
  refine h_newi (n := 10) K hS ha (by decide) (by decide) (by decide) hcells hslots hd fun q H1 h => kk q H1 ⟨h.1, ⟨⟨gP_307 h.2.1.1.1, h.2.1.1.2⟩, kX.nil⟩, h.2.2.1, ?_⟩
  rw [show (gU σ 307 fun _ => 0) 307 = fun _ => 0 from gU_at]
  exact h.2.2.2
theorem h7_ld {q : Nat} {i : Int32} (K : gK p s m args meth c G cc nL own ret) (hS : hS7 G o q s σ H locs) (hin : gin i 10 = true) (hd : decode cc pc = .ok (.iaload, 1))
    (kk : W p l e R s m args below meth c H locs cells slots Q (F0 m (pc + 1) ls (.int (σ 307 (gil i)) :: rest))) : W p l e R s m args below meth c H locs cells slots Q (F0 m pc ls (.int i :: .ref q :: rest)) := by
  obtain ⟨hx, hb, hml, hown, hts, hE, hr, hlk⟩ := K
  exact va_iald hx hb hE.1 hS.2.2.2 0 0 rfl rfl (gin_in hin) hd kk
theorem h7_ist {q : Nat} {i x : Int32} (K : gK p s m args meth c G cc nL own ret) (hS : hS7 G o q s σ H locs) (hin : gin i 10 = true) (hd : decode cc pc = .ok (.iastore, 1))
    (kk : ∀ (H1 : Heap) (locs1 : List Loc), hS7 G o q s (up2 σ 307 (gil i) x) H1 locs1 → W p l e R s m args below meth c H1 locs1 cells slots Q (F0 m (pc + 1) ls rest)) : W p l e R s m args below meth c H locs cells slots Q (F0 m pc ls (.int x :: .int i :: .ref q :: rest)) := by
  refine h_ist K hS hin hd fun H1 h => kk H1 locs ⟨h.1, ⟨⟨gP_307 h.2.1.1.1, h.2.1.1.2⟩, kX.nil⟩, h.2.2.1, ?_⟩
  rw [show up2 σ 307 (gil i) x 307 = upd (σ 307) (gil i) x from gU_at]
  exact h.2.2.2
theorem h7_iald {q cx n j : Nat} {i : Int32} (K : gK p s m args meth c G cc nL own ret) (hS : hS7 G o q s σ H locs) (he : ∀ f, entL G o cx f = .inl (G.2 0, n, .inl f)) (hc : cx < 307) (hin : gin i n = true) (hj : gil i = j) (hd : decode cc pc = .ok (.iaload, 1))
    (kk : W p l e R s m args below meth c H locs cells slots Q (F0 m (pc + 1) ls (.int (σ cx j) :: rest))) : W p l e R s m args below meth c H locs cells slots Q (F0 m pc ls (.int i :: .ref (o + cx) :: rest)) :=
  h_iald K hS.2.1 he hc hin hj hd kk
/-! calls -/
variable {idx mL n : Nat} {y : MethodName} {b : ByteArray} {rm : Room} {As : List Value} {mc ms : Nat}
theorem h_after {A' : Nat → Prop} {Qa : State → Outcome → State → Prop} {Pq : Option Value → Heap → Prop} (hA : ∀ q, A' q → gA o 307 q) (hS : hSt G o X s σ H locs) (hr : va_Run p l e R s m args below meth c H locs cells slots mc ms (F0 m pc ls st0) rest Qa A')
    (hq : ∀ (v : Option Value) (st t : State), st.heap = H → Qa st (.returned v) t → Pq v t.heap ∧ va_F A' st t)
    (kk : ∀ (v : Option Value) (H1 : Heap) (locs1 : List Loc), Pq v H1 → (∀ q, q < H.size → ¬ A' q → H1[q]? = H[q]?) → va_S (gA o 307) s.heap H1 locs1 → kX o X s H1 → W p l e R s m args below meth c H1 locs1 (cells + mc) (slots + ms) Q (F0 m (pc + 3) ls (v.toList ++ rest))) : W p l e R s m args below meth c H locs cells slots Q (F0 m pc ls st0) := by
  obtain ⟨⟨hP, hV⟩, hX⟩ := hS
  intro T hT XX
  obtain ⟨v, st₀, t, T', L, h0, X', hL, e1, e2, hQ, st⟩ := hr T hT XX
  obtain ⟨h1, hz, hk⟩ := hq v st₀ t h0 hQ
  rw [h0] at hz hk
  have hk' : ∀ q, q < H.size → ¬ A' q → T'.heap[q]? = H[q]? := fun q a b => by rw [e1]; exact hk q a b
  obtain ⟨t2, a1, b1⟩ := kk v T'.heap (locs ++ L) (by rw [e1]; exact h1) hk' ⟨Nat.le_trans hV.1 (by rw [e1]; exact hz), fun q h2 h3 => by rw [hk' q (Nat.lt_of_lt_of_le h2 hV.1) (fun z => h3 (hA q z))]; exact hV.2.1 q h2 h3, fun q hq => by
      rcases List.mem_append.mp hq with h | h
      · exact hV.2.2 q h
      · exact hA _ (hL q h)⟩ (hX.kept fun q a b => hk' q a fun z => b (hA q z)) T' rfl X'
  exact ⟨t2, st t2 a1, b1⟩
theorem gA_up {q : Nat} (h : gA o 302 q) : gA o 307 q := ⟨h.1, Nat.lt_trans h.2 (by omega)⟩
/-- the class is asked -/
theorem h_Vi {q : Int32 × gS} {ry : Option FieldType} (K : gK p s m args meth c G cc nL own ret) (hS : hSt G o X s σ H locs) (L : gMV own idx y RX10 b mL ry n) (hM : Met l y (gW y b mL ry) rm (gPc G (entX G o) o 302 (.ref (o + 0) :: As) σ) (gQi G (entX G o) o 302 q) 0 0 (gA o 302)) (hn : As.length = n) (hst : st0 = As.reverse ++ .ref (o + 0) :: rest) (hw : (rest.map fun v => v.category).sum ≤ 8) (hR : gR rm R mL) (hls : ls.size = nL) (hcs : cells ≤ R.cells ∧ slots ≤ R.slots) (hd : decode cc pc = .ok (.invokevirtual idx, 3))
    (kk : ∀ (H1 : Heap) (locs1 : List Loc), hSt G o X s (gMix σ q.2) H1 locs1 → W p l e R s m args below meth c H1 locs1 cells slots Q (F0 m (pc + 3) ls (.int q.1 :: rest))) : W p l e R s m args below meth c H locs cells slots Q (F0 m pc ls st0) := by
  obtain ⟨h1, h2, h3, h4, h5, h6⟩ := L
  have K2 := K
  obtain ⟨hx, hb, hml, hown, hts, hE, hr, hlk⟩ := K
  have hlow := gL_low hS.1.1
  refine h_after (mc := 0) (ms := 0) (A' := gA o 302) (Pq := fun v H => v = some (.int q.1) ∧ gP G (entX G o) o 302 q.2 H) (fun _ => gA_up) hS (va_runV (As := As) (rest := rest) ⟨hx, hb, hml, hown, hts⟩ hM ⟨g_callB K2 h5 h4 h1 h6 hR, hts _ h2, hts _ h3⟩ ⟨gPc_blind, va_recv (q := (RX10, TX10, 6)) (ci := 9) hE.1 hlow rfl (gL_get (c := 0) (by decide)), fun U hU hW => ⟨rfl, by rw [hU]; exact hlow, hE.warm hW⟩⟩ rfl hn hls hst (lv_room (pc := pc) (ls := ls) (m := m) (rest := rest) hw) hd hcs) (fun v st t h0 h => ⟨⟨Outcome.returned.inj h.1.1, h.1.2⟩, h.2⟩) (fun v H1 locs1 hh hk hV hX => ?_)
  obtain ⟨rfl, h⟩ := hh
  exact kk H1 locs1 ⟨⟨gL_mix hS.1.1 h hk, hV⟩, hX⟩
theorem h_callB {ry : Option FieldType} (K : gK p s m args meth c G cc nL own ret) (hcode : Cond.code y b mL ry ∈ gT) (hini : Cond.initialized y.cls ∈ gT) (hl : Cond.methodLink own idx y ∈ gT) (hd : y.cls ≠ "java/lang/invoke/MethodHandle" ∧ y.cls ≠ "java/lang/invoke/VarHandle" ∧ (parseMethodDescriptor y.desc).map (fun d => d.parameters.length) = some n) (hrm : rm.cells = mc ∧ rm.slots = ms) (hR : rm.frames + 1 ≤ R.frames ∧ 8 + (mL + 11) + rm.locals ≤ R.locals) : CallB R s args own idx y b mL ry (gW y b mL ry) rm mc ms n :=
  callB_of n K.2.2.2.2.1 (gW_in hcode) rfl hrm.1 hrm.2 (K.2.2.2.2.1 _ hini) (K.2.2.2.2.1 _ hl) hd hR
theorem h_runS {X' : List kA} {ry : Option FieldType} {Qc : Array Value → State → Outcome → State → Prop} (K : gK p s m args meth c G cc nL own ret) (hS : hSt G o X s σ H locs) (L : gMS own idx y b mL ry n) (hsub : ∀ x ∈ X', x ∈ X) (hM : Met l y (gW y b mL ry) rm (hPc G o X' As σ) Qc mc ms (gA o 307)) (hn : As.length = n) (hst : st0 = As.reverse ++ rest) (hw : (rest.map fun v => v.category).sum ≤ 8) (hrm : rm.cells = mc ∧ rm.slots = ms) (hR : rm.frames + 1 ≤ R.frames ∧ 8 + (mL + 11) + rm.locals ≤ R.locals) (hls : ls.size = nL) (hcs : cells + mc ≤ R.cells ∧ slots + ms ≤ R.slots) (hd : decode cc pc = .ok (.invokestatic idx, 3)) :
    va_Run p l e R s m args below meth c H locs cells slots mc ms (F0 m pc ls st0) rest (Qc As.toArray) (gA o 307) := by
  obtain ⟨h1, h2, h4, h5, h6⟩ := L
  have K2 := K
  obtain ⟨hx, hb, hml, hown, hts, hE, hr, hlk⟩ := K
  exact va_runS (As := As) (rest := rest) ⟨hx, hb, hml, hown, hts⟩ hM ⟨h_callB K2 h5 h4 h1 h6 hrm hR, hts _ h2⟩ ⟨hPc_blind, fun U hU hW => ⟨rfl, ⟨by rw [hU]; exact hS.1.1, by rw [hU]; exact (hS.2.sub hsub).moved hW.alike⟩, K2.2.2.2.2.2.1.warm hW⟩⟩ rfl hn hls hst (lv_room (pc := pc) (ls := ls) (m := m) (rest := rest) hw) hd hcs
/-- the law asks one of its own methods -/
theorem h_Si {X' : List kA} {q : Int32 × gS} {ry : Option FieldType} (K : gK p s m args meth c G cc nL own ret) (hS : hSt G o X s σ H locs) (L : gMS own idx y b mL ry n) (hsub : ∀ x ∈ X', x ∈ X) (hM : Met l y (gW y b mL ry) rm (hPc G o X' As σ) (hQi G o q) mc ms (gA o 307)) (hn : As.length = n) (hst : st0 = As.reverse ++ rest) (hw : (rest.map fun v => v.category).sum ≤ 8) (hrm : rm.cells = mc ∧ rm.slots = ms) (hR : rm.frames + 1 ≤ R.frames ∧ 8 + (mL + 11) + rm.locals ≤ R.locals) (hls : ls.size = nL) (hcs : cells + mc ≤ R.cells ∧ slots + ms ≤ R.slots) (hd : decode cc pc = .ok (.invokestatic idx, 3))
    (kk : ∀ (H1 : Heap) (locs1 : List Loc), hSt G o X s q.2 H1 locs1 → W p l e R s m args below meth c H1 locs1 (cells + mc) (slots + ms) Q (F0 m (pc + 3) ls (.int q.1 :: rest))) : W p l e R s m args below meth c H locs cells slots Q (F0 m pc ls st0) := by
  refine h_after (A' := gA o 307) (Pq := fun v H => v = some (.int q.1) ∧ gP G (entL G o) o 307 q.2 H) (fun _ h => h) hS (h_runS K hS L hsub hM hn hst hw hrm hR hls hcs hd) (fun v st t h0 h => ⟨⟨Outcome.returned.inj h.1.1, h.1.2⟩, h.2⟩) (fun v H1 locs1 hh hk hV hX => ?_)
  obtain ⟨rfl, h⟩ := hh
  exact kk H1 locs1 ⟨⟨h, hV⟩, hX⟩
/-- the law asks one of its own methods -/
theorem h_Si0 {X' : List kA} {q : Int32 × gS} {ry : Option FieldType} (K : gK p s m args meth c G cc nL own ret) (hS : hSt G o X s σ H locs) (L : gMS own idx y b mL ry n) (hsub : ∀ x ∈ X', x ∈ X) (hM : Met l y (gW y b mL ry) rm (hPc G o X' As σ) (hQi G o q) 0 0 (gA o 307)) (hn : As.length = n) (hst : st0 = As.reverse ++ rest) (hw : (rest.map fun v => v.category).sum ≤ 8) (hrm : rm.cells = 0 ∧ rm.slots = 0) (hR : rm.frames + 1 ≤ R.frames ∧ 8 + (mL + 11) + rm.locals ≤ R.locals) (hls : ls.size = nL) (hcs : cells ≤ R.cells ∧ slots ≤ R.slots) (hd : decode cc pc = .ok (.invokestatic idx, 3))
    (kk : ∀ (H1 : Heap) (locs1 : List Loc), hSt G o X s q.2 H1 locs1 → W p l e R s m args below meth c H1 locs1 cells slots Q (F0 m (pc + 3) ls (.int q.1 :: rest))) : W p l e R s m args below meth c H locs cells slots Q (F0 m pc ls st0) :=
  h_Si K hS L hsub hM hn hst hw hrm hR hls hcs hd kk
/-- .. inside the making of the costs: what the callee leaves of row 307 is the old one -/
theorem h7_Si {a : Nat} {X' : List kA} {q : Int32 × gS} {ry : Option FieldType} (K : gK p s m args meth c G cc nL own ret) (hS : hS7 G o a s σ H locs) (L : gMS own idx y b mL ry n) (hsub : ∀ x ∈ X', x ∈ ([] : List kA)) (hM : Met l y (gW y b mL ry) rm (hPc G o X' As σ) (hQi G o q) mc ms (gA o 307)) (hn : As.length = n) (hst : st0 = As.reverse ++ rest) (hw : (rest.map fun v => v.category).sum ≤ 8) (hrm : rm.cells = mc ∧ rm.slots = ms) (hR : rm.frames + 1 ≤ R.frames ∧ 8 + (mL + 11) + rm.locals ≤ R.locals) (hls : ls.size = nL) (hcs : cells + mc ≤ R.cells ∧ slots + ms ≤ R.slots) (hd : decode cc pc = .ok (.invokestatic idx, 3))
    (kk : ∀ (H1 : Heap) (locs1 : List Loc), hS7 G o a s (gU q.2 307 (σ 307)) H1 locs1 → W p l e R s m args below meth c H1 locs1 (cells + mc) (slots + ms) Q (F0 m (pc + 3) ls (.int q.1 :: rest))) : W p l e R s m args below meth c H locs cells slots Q (F0 m pc ls st0) := by
  obtain ⟨hq, hS, hqA, hqP⟩ := hS
  refine h_after (A' := gA o 307) (Pq := fun v H => v = some (.int q.1) ∧ gP G (entL G o) o 307 q.2 H) (fun _ h => h) hS (h_runS K hS L hsub hM hn hst hw hrm hR hls hcs hd) (fun v st t h0 h => ⟨⟨Outcome.returned.inj h.1.1, h.1.2⟩, h.2⟩) (fun v H1 locs1 hh hk hV hX => ?_)
  obtain ⟨rfl, h⟩ := hh
  refine kk H1 locs1 ⟨hq, ⟨⟨gP_307 h, hV⟩, hX⟩, hqA, ?_⟩
  rw [gU_at]
  exact hqP.kept1 fun hl => hk _ hl hqA
/-- .. inside the making of the costs: what the callee leaves of row 307 is the old one -/
theorem h7_Si0 {a : Nat} {X' : List kA} {q : Int32 × gS} {ry : Option FieldType} (K : gK p s m args meth c G cc nL own ret) (hS : hS7 G o a s σ H locs) (L : gMS own idx y b mL ry n) (hsub : ∀ x ∈ X', x ∈ ([] : List kA)) (hM : Met l y (gW y b mL ry) rm (hPc G o X' As σ) (hQi G o q) 0 0 (gA o 307)) (hn : As.length = n) (hst : st0 = As.reverse ++ rest) (hw : (rest.map fun v => v.category).sum ≤ 8) (hrm : rm.cells = 0 ∧ rm.slots = 0) (hR : rm.frames + 1 ≤ R.frames ∧ 8 + (mL + 11) + rm.locals ≤ R.locals) (hls : ls.size = nL) (hcs : cells ≤ R.cells ∧ slots ≤ R.slots) (hd : decode cc pc = .ok (.invokestatic idx, 3))
    (kk : ∀ (H1 : Heap) (locs1 : List Loc), hS7 G o a s (gU q.2 307 (σ 307)) H1 locs1 → W p l e R s m args below meth c H1 locs1 cells slots Q (F0 m (pc + 3) ls (.int q.1 :: rest))) : W p l e R s m args below meth c H locs cells slots Q (F0 m pc ls st0) :=
  h7_Si K hS L hsub hM hn hst hw hrm hR hls hcs hd kk
/-- .. and gets a row of costs -/
theorem h_Sr {X' : List kA} {σ' : gS} {D : Nat → Int32} {ry : Option FieldType} (K : gK p s m args meth c G cc nL own ret) (hS : hSt G o X s σ H locs) (L : gMS own idx y b mL ry n) (hsub : ∀ x ∈ X', x ∈ X) (hM : Met l y (gW y b mL ry) rm (hPc G o X' As σ) (hQr G o σ' D) mc ms (gA o 307)) (hn : As.length = n) (hst : st0 = As.reverse ++ rest) (hw : (rest.map fun v => v.category).sum ≤ 8) (hrm : rm.cells = mc ∧ rm.slots = ms) (hR : rm.frames + 1 ≤ R.frames ∧ 8 + (mL + 11) + rm.locals ≤ R.locals) (hls : ls.size = nL) (hcs : cells + mc ≤ R.cells ∧ slots + ms ≤ R.slots) (hd : decode cc pc = .ok (.invokestatic idx, 3))
    (kk : ∀ (q : Nat) (H1 : Heap) (locs1 : List Loc), hSt G o (X ++ [(q, 10, D)]) s σ' H1 locs1 → W p l e R s m args below meth c H1 locs1 (cells + mc) (slots + ms) Q (F0 m (pc + 3) ls (.ref q :: rest))) : W p l e R s m args below meth c H locs cells slots Q (F0 m pc ls st0) := by
  refine h_after (A' := gA o 307) (Pq := fun v H => ∃ q, v = some (.ref q) ∧ gP G (entL G o) o 307 σ' H ∧ ¬ gA o 307 q ∧ va_P G.1 gCls [(q, .inl (G.2 0, 10, .inl D))] H) (fun _ h => h) hS (h_runS K hS L hsub hM hn hst hw hrm hR hls hcs hd) (fun v st t h0 h => ⟨?_, h.2⟩) (fun v H1 locs1 hh hk hV hX => ?_)
  · obtain ⟨⟨q, hq, h1, h2⟩, -⟩ := h
    exact ⟨q, Outcome.returned.inj hq, h1, h2⟩
  · obtain ⟨q, rfl, h, h2, h3⟩ := hh
    exact kk q H1 locs1 ⟨⟨h, hV⟩, hX.app (kX.one K.2.2.2.2.2.1 h2 h3)⟩
/-- a row of costs is given back -/
theorem h_aret {q : Nat} {τ : gS} (K : gK p s m args meth c G cc nL own ret) (hS : hS7 G o q s σ H locs) (hret : ret = some (.array .int)) (hf : some σ = some τ) (hd : decode cc pc = .ok (.areturn, 1)) : W p l e R s m args below meth c H locs cells slots (MQ below (hQr G o τ (τ 307)) args s cells slots (gA o 307)) (F0 m pc ls [.ref q]) := by
  obtain ⟨-, hS, hqA, hqP⟩ := hS
  obtain ⟨hx, hb, hml, hown, hts, hE, hr, hlk⟩ := K
  obtain rfl := Option.some.inj hf
  exact W.aret (rt := .array .int) hx hb (by rw [hr, hret]) (Or.inr ⟨_, rfl⟩) (Or.inr ⟨_, rfl⟩) (fun t ht hW => ⟨⟨q, rfl, by rw [ht]; exact hS.1.1, hqA, by rw [ht]; exact hqP⟩, hS.1.2.F ht⟩) hS.1.2.2.2 hd hlk
/-- a method's contract out of a walk of its body -/
theorem h_met {av : List Value} {Qc : Array Value → State → Outcome → State → Prop} {ry : Option FieldType} (hy : plainName y.cls = true) (hrm : rm.cells = mc ∧ rm.slots = ms)
    (body : ∀ (p : Program) (e : Env) (s : State) (m : MethodId) (args : Array Value) (below : List Frame) (meth : Method) (c : Code) (ls : Array Slot), gK p s m args meth c G b mL y.cls ry → hSt G o X s σ s.heap [] → lv_has ls mL (lv_args 0 av) → W p l e rm s m args below meth c s.heap [] 0 0 (MQ below Qc args s mc ms (gA o 307)) (F0 m 0 ls []))
    (hav : (lg_sl av).length ≤ mL) : Met l y (gW y b mL ry) rm (hPc G o X av σ) Qc mc ms (gA o 307) := by
  refine Met.ofW (cc := b) (maxL := mL) (ret := ry) hy rfl ?_
  intro p e s m args below meth c s₁ B hml hv
  obtain ⟨rfl, hP, hE⟩ := hv
  have hts := atoms_spec (ws := gW y b mL ry) B.pre
  have hown : s.vm.findClass y.cls = some m.cls := findClass_of_methodNamed B.named
  have K : gK p s m av.toArray meth c G b mL y.cls ry := ⟨B.exec, B.bytes, hml, hown, fun w hw => hts w (List.mem_cons_of_mem _ hw), hE, B.returns, B.notSynchronized⟩
  have hl := lv_entry av hav
  rw [lg_entry_eq]
  exact body p e s m _ below meth c _ K ⟨⟨hP.1, va_S.rf⟩, hP.2⟩ hl
theorem h_iret {q : Int32 × gS} {v : Int32} (K : gK p s m args meth c G cc nL own (some .int)) (hS : hSt G o X s σ H locs) (hf : some (v, σ) = some q) (hd : decode cc pc = .ok (.ireturn, 1)) : W p l e R s m args below meth c H locs cells slots (MQ below (hQi G o q) args s cells slots (gA o 307)) (F0 m pc ls [.int v]) := g_iret K hS.1 hf hd
theorem h_zret {q : Int32 × gS} {v : Int32} (K : gK p s m args meth c G cc nL own (some .boolean)) (hS : hSt G o X s σ H locs) (hv : narrow .boolean (.int v) = .int v) (hf : some (v, σ) = some q) (hd : decode cc pc = .ok (.ireturn, 1)) : W p l e R s m args below meth c H locs cells slots (MQ below (hQi G o q) args s cells slots (gA o 307)) (F0 m pc ls [.int v]) := g_zret K hS.1 hv hf hd
end HR
