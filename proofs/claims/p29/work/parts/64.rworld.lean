def entR (G : gG) (o n c : Nat) (f : Nat → Int32) : va_E := match c with
  | 0 => .inr (5, [.ref (o + 1)])
  | _ => .inl (G.2 0, n, .inl f)
def gRowR (G : gG) (o r L : Nat) : Prop := (∀ f, entR G o L r f = .inr (5, [.ref (o + (r + 1))])) ∧ (∀ f, entR G o L (r + 1) f = .inl (G.2 0, L, .inl f)) ∧ r < 2 ∧ r + 1 < 2
section RW
variable {l : Launch} {G : gG} {o : Nat}
set_option maxHeartbeats 4000000 in
set_option maxRecDepth 100000 in
theorem c_R_store (r L : Nat) (hr : gRowR G o r L) (p0 : Int32) (p1 : Int32) (σ : gS) (q : gS) (hf : f_X5_store r L p0 p1 σ = some q) : Met l yX5_store (gW yX5_store cX5_store 3 none) rmX5_store (gPc G (entR G o L) o 2 [.ref (o + r), .int p0, .int p1] σ) (gQv G (entR G o L) o 2 q) 0 0 (gA o 2) := by
  refine g_met (by decide) ⟨rfl, rfl⟩ (fun p e s m args below meth c ls K hS hl => ?_) (Nat.le_of_ble_eq_true rfl)
  have K : gK p s m args meth c G cX5_store 3 RX5 none := K
  have hl : lv_has ls 3 [(0, .ref (o + r)), (1, .int p0), (2, .int p1)] := hl
  obtain ⟨hx, hb, hml, hown, hts, -⟩ := id K
  unfold f_X5_store at hf
  refine lv_iload_n hx hb dX5_store_0 rfl (lv_at hl 1 rfl) ?_
  refine lv_if_lt (tgt := 20) hx hb dX5_store_1 (by decide) (fun c1 => ?_) (fun c1 => ?_)
  · have hf := gIf_t c1 hf
    exact g_vret K hS hf dX5_store_20
  · have hf := gIf_f c1 hf
    refine lv_iload_n hx hb dX5_store_4 rfl (lv_at hl 1 rfl) ?_
    refine lv_aload_n hx hb dX5_store_5 rfl (lv_at hl 0 rfl) ?_
    refine g_get (cx := r) K hS lF_X5_13 (hr.1 _) hr.2.2.1 rfl dX5_store_6 ?_
    refine g_alen (cx := (r + 1)) (t0 := 0) (v := (Int32.ofNat L)) K hS (hr.2.1 _) hr.2.2.2 rfl rfl dX5_store_9 ?_
    refine lv_icmp_ge (tgt := 20) hx hb dX5_store_10 (by decide) (fun c2 => ?_) (fun c2 => ?_)
    · have hf := gIf_t c2 hf
      exact g_vret K hS hf dX5_store_20
    · have hf := gIf_f c2 hf
      refine lv_aload_n hx hb dX5_store_13 rfl (lv_at hl 0 rfl) ?_
      refine g_get (cx := r) K hS lF_X5_13 (hr.1 _) hr.2.2.1 rfl dX5_store_14 ?_
      refine lv_iload_n hx hb dX5_store_17 rfl (lv_at hl 1 rfl) ?_
      refine lv_iload_n hx hb dX5_store_18 rfl (lv_at hl 2 rfl) ?_
      obtain ⟨h4, hf⟩ := gGd_some hf
      obtain ⟨s3, hs3, hf⟩ := gLet_some hf
      refine g_iast (cx := (r + 1)) K hS hr.2.1 hr.2.2.2 h4 rfl dX5_store_19 (fun H locs hS => ?_)
      rw [← hs3] at hS
      exact g_vret K hS hf dX5_store_20
end RW
