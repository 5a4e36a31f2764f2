section
variable {p : Program} {l : Launch} {e : Env} {R : Room} {s : State} {m : MethodId} {args : Array Value} {below : List Frame} {meth : Method} {c : Code} {G : gG} {o : Nat} {cc ss : Nat} {Q : State → Prop}
def f_L_law_L1077 (Lx : Nat) (xs : Nat → Int32) (Dc : Nat → Int32) (w7 : Int32) (w10 : Int32) (w12 : Int32) (w13 : Int32) (w15 : Int32) (K1149 : gS → Option (gS)) : Nat → Int32 → gS → Option (gS)
  | 0, _, _ => none
  | n + 1, v16, σ => if v16 = 0 then (K1149 σ) else (gGd (gin w10 12) (if (σ 304 (gil w10)) = w12 then (K1149 σ) else (gGd (gin w10 12) (Option.bind (f_L_first Dc (σ 304 (gil w10)) w13 σ) (fun q67 => Option.bind (f_L_free w10 q67.1 q67.2) (fun q68 => if q68.1 = 0 then (f_L_law_L1077 Lx xs Dc w7 w10 w12 w13 w15 K1149 n q68.1 q68.2) else (Option.bind (f_L_glide w10 q67.1 q68.2) (fun q70 => f_L_law_L1077 Lx xs Dc w7 w10 w12 w13 w15 K1149 n q68.1 q70.2))))))))
theorem f_L_law_L1077_s (Lx : Nat) (xs : Nat → Int32) (Dc : Nat → Int32) (w7 : Int32) (w10 : Int32) (w12 : Int32) (w13 : Int32) (w15 : Int32) (K1149 : gS → Option (gS)) (n : Nat) (v16 : Int32) (σ : gS) : f_L_law_L1077 Lx xs Dc w7 w10 w12 w13 w15 K1149 (n + 1) v16 σ = (if v16 = 0 then (K1149 σ) else (gGd (gin w10 12) (if (σ 304 (gil w10)) = w12 then (K1149 σ) else (gGd (gin w10 12) (Option.bind (f_L_first Dc (σ 304 (gil w10)) w13 σ) (fun q67 => Option.bind (f_L_free w10 q67.1 q67.2) (fun q68 => if q68.1 = 0 then (f_L_law_L1077 Lx xs Dc w7 w10 w12 w13 w15 K1149 n q68.1 q68.2) else (Option.bind (f_L_glide w10 q67.1 q68.2) (fun q70 => f_L_law_L1077 Lx xs Dc w7 w10 w12 w13 w15 K1149 n q68.1 q70.2))))))))) := rfl
def f_L_law_L848 (Lx : Nat) (xs : Nat → Int32) (w7 : Int32) (w10 : Int32) (K902 : Int32 → gS → Option (gS)) : Nat → Int32 → Int32 → gS → Option (gS)
  | 0, _, _, _ => none
  | n + 1, v12, v13, σ => if (σ 306 4) ≤ v13 then (K902 v12 σ) else (Option.bind (f_L_one v12 σ) (fun q100 => gGd (gin w10 12) (if q100.1 = (q100.2 304 (gil w10)) then (K902 v12 q100.2) else (Option.bind (f_L_two v12 q100.2) (fun q103 => gGd (gin w10 12) (if q103.1 = (q103.2 304 (gil w10)) then (K902 v12 q103.2) else (gGd (gne (q103.2 306 4)) (gLet ((v12 + 1) - (v12 + 1) / (q103.2 306 4) * (q103.2 306 4)) (fun x107 => f_L_law_L848 Lx xs w7 w10 K902 n x107 (v13 + 1) q103.2)))))))))
theorem f_L_law_L848_s (Lx : Nat) (xs : Nat → Int32) (w7 : Int32) (w10 : Int32) (K902 : Int32 → gS → Option (gS)) (n : Nat) (v12 : Int32) (v13 : Int32) (σ : gS) : f_L_law_L848 Lx xs w7 w10 K902 (n + 1) v12 v13 σ = (if (σ 306 4) ≤ v13 then (K902 v12 σ) else (Option.bind (f_L_one v12 σ) (fun q100 => gGd (gin w10 12) (if q100.1 = (q100.2 304 (gil w10)) then (K902 v12 q100.2) else (Option.bind (f_L_two v12 q100.2) (fun q103 => gGd (gin w10 12) (if q103.1 = (q103.2 304 (gil w10)) then (K902 v12 q103.2) else (gGd (gne (q103.2 306 4)) (gLet ((v12 + 1) - (v12 + 1) / (q103.2 306 4) * (q103.2 306 4)) (fun x107 => f_L_law_L848 Lx xs w7 w10 K902 n x107 (v13 + 1) q103.2)))))))))) := rfl
def f_L_law_L499 (Lx : Nat) (xs : Nat → Int32) (w7 : Int32) (w12 : Int32) (w13 : Int32) (K534 : gS → Option (gS)) : Nat → Int32 → gS → Option (gS)
  | 0, _, _ => none
  | n + 1, v14, σ => if (σ 306 4) ≤ v14 then (K534 σ) else (gGd (gin (v14 + 1) 20) (gGd (gin v14 20) (gLet (up2 σ 302 (gil v14) (σ 302 (gil (v14 + 1)))) (fun s197 => gGd (gin (v14 + 1) 20) (gGd (gin v14 20) (gLet (up2 s197 303 (gil v14) (s197 303 (gil (v14 + 1)))) (fun s199 => f_L_law_L499 Lx xs w7 w12 w13 K534 n (v14 + 1) s199)))))))
theorem f_L_law_L499_s (Lx : Nat) (xs : Nat → Int32) (w7 : Int32) (w12 : Int32) (w13 : Int32) (K534 : gS → Option (gS)) (n : Nat) (v14 : Int32) (σ : gS) : f_L_law_L499 Lx xs w7 w12 w13 K534 (n + 1) v14 σ = (if (σ 306 4) ≤ v14 then (K534 σ) else (gGd (gin (v14 + 1) 20) (gGd (gin v14 20) (gLet (up2 σ 302 (gil v14) (σ 302 (gil (v14 + 1)))) (fun s197 => gGd (gin (v14 + 1) 20) (gGd (gin v14 20) (gLet (up2 s197 303 (gil v14) (s197 303 (gil (v14 + 1)))) (fun s199 => f_L_law_L499 Lx xs w7 w12 w13 K534 n (v14 + 1) s199)))))))) := rfl
def f_L_law_L550 (Lx : Nat) (xs : Nat → Int32) (w7 : Int32) (w12 : Int32) (w13 : Int32) (w14 : Int32) (K608 : Int32 → gS → Option (gS)) : Nat → Int32 → Int32 → gS → Option (gS)
  | 0, _, _, _ => none
  | n + 1, v15, v16, σ => if (σ 306 4) < v16 then (K608 v15 σ) else (if v16 = w12 then (gLet (v15 ||| 0) (fun x210 => f_L_law_L550 Lx xs w7 w12 w13 w14 K608 n x210 (v16 + 1) σ)) else (gGd (gin w14 12) (if w12 ≤ v16 then (gLet (v15 ||| ((((σ 304 (gil w14)) >>> (v16 &&& 31)) &&& 1) <<< ((v16 - 1) &&& 31))) (fun x208 => f_L_law_L550 Lx xs w7 w12 w13 w14 K608 n x208 (v16 + 1) σ)) else (gLet (v15 ||| ((((σ 304 (gil w14)) >>> (v16 &&& 31)) &&& 1) <<< (v16 &&& 31))) (fun x209 => f_L_law_L550 Lx xs w7 w12 w13 w14 K608 n x209 (v16 + 1) σ)))))
theorem f_L_law_L550_s (Lx : Nat) (xs : Nat → Int32) (w7 : Int32) (w12 : Int32) (w13 : Int32) (w14 : Int32) (K608 : Int32 → gS → Option (gS)) (n : Nat) (v15 : Int32) (v16 : Int32) (σ : gS) : f_L_law_L550 Lx xs w7 w12 w13 w14 K608 (n + 1) v15 v16 σ = (if (σ 306 4) < v16 then (K608 v15 σ) else (if v16 = w12 then (gLet (v15 ||| 0) (fun x210 => f_L_law_L550 Lx xs w7 w12 w13 w14 K608 n x210 (v16 + 1) σ)) else (gGd (gin w14 12) (if w12 ≤ v16 then (gLet (v15 ||| ((((σ 304 (gil w14)) >>> (v16 &&& 31)) &&& 1) <<< ((v16 - 1) &&& 31))) (fun x208 => f_L_law_L550 Lx xs w7 w12 w13 w14 K608 n x208 (v16 + 1) σ)) else (gLet (v15 ||| ((((σ 304 (gil w14)) >>> (v16 &&& 31)) &&& 1) <<< (v16 &&& 31))) (fun x209 => f_L_law_L550 Lx xs w7 w12 w13 w14 K608 n x209 (v16 + 1) σ)))))) := rfl
def f_L_law_L537 (Lx : Nat) (xs : Nat → Int32) (w7 : Int32) (w12 : Int32) (w13 : Int32) (K621 : gS → Option (gS)) : Nat → Int32 → gS → Option (gS)
  | 0, _, _ => none
  | n + 1, v14, σ => if 8 ≤ v14 then (K621 σ) else (f_L_law_L550 Lx xs w7 w12 w13 v14 (fun (k211 : Int32) (s212 : gS) => gGd (gin v14 12) (gLet (up2 s212 304 (gil v14) k211) (fun s213 => f_L_law_L537 Lx xs w7 w12 w13 K621 n (v14 + 1) s213))) gFu 0 0 σ)
theorem f_L_law_L537_s (Lx : Nat) (xs : Nat → Int32) (w7 : Int32) (w12 : Int32) (w13 : Int32) (K621 : gS → Option (gS)) (n : Nat) (v14 : Int32) (σ : gS) : f_L_law_L537 Lx xs w7 w12 w13 K621 (n + 1) v14 σ = (if 8 ≤ v14 then (K621 σ) else (f_L_law_L550 Lx xs w7 w12 w13 v14 (fun (k211 : Int32) (s212 : gS) => gGd (gin v14 12) (gLet (up2 s212 304 (gil v14) k211) (fun s213 => f_L_law_L537 Lx xs w7 w12 w13 K621 n (v14 + 1) s213))) gFu 0 0 σ)) := rfl
def f_L_body (Lx : Nat) (xs : Nat → Int32) (e7 : Int32) (σ : gS) : Option gS := Option.bind (f_L_cell Lx xs e7 σ) (fun q1 => Option.bind (f_L_low q1.1 20 q1.2) (fun q2 => Option.bind (f_L_low (q1.1 >>> (5 &&& 31)) 4 q2.2) (fun q3 => gLet (fun (j4 : Int32) (s5 : gS) => Option.bind (f_L_cell Lx xs (60 + e7) s5) (fun q7 => if j4 = 0 then (none) else (Option.bind (f_L_tells q7.2) (fun q9 => if q9.1 = 0 then (none) else (Option.bind (f_L_low q7.1 4 q9.2) (fun q11 => Option.bind (f_L_trail q11.1 q11.2) (fun q12 => if q12.1 = 0 then (none) else (Option.bind (f_L_low (q7.1 >>> (2 &&& 31)) 4 q12.2) (fun q14 => Option.bind (f_L_low (q7.1 >>> (4 &&& 31)) 10 q14.2) (fun q15 => Option.bind (f_L_ways q14.1 q15.1 q15.2) (fun q16 => if q16.1 = 0 then (none) else (Option.bind (f_L_low (q7.1 >>> (8 &&& 31)) 10 q16.2) (fun q18 => Option.bind (f_L_low (q7.1 >>> (12 &&& 31)) 10 q18.2) (fun q19 => Option.bind (f_X10_far q18.1 q19.1 q19.2) (fun q20 => gLet (gMix q19.2 q20.2) (fun s21 => Option.bind (f_L_low (q7.1 >>> (8 &&& 31)) 10 s21) (fun q22 => Option.bind (f_L_low (q7.1 >>> (12 &&& 31)) 10 q22.2) (fun q23 => Option.bind (f_L_far q22.1 q23.1 q23.2) (fun q24 => if q20.1 = q24.1 then (if (e7 - e7 / 10 * 10) = 9 then (Option.bind (f_L_gap q24.2) (fun q27 => if q27.1 = 0 then (none) else (some q27.2))) else (some q24.2)) else (none)))))))))))))))))))) (fun J6 => gLet (fun (s29 : gS) => gLet (fun (s31 : gS) => if q2.1 = 6 then (Option.bind (f_L_low (q1.1 >>> (7 &&& 31)) ((s31 306 4) + 1) s31) (fun q176 => gLet (fun (j177 : Int32) (s178 : gS) => gLet (fun (s180 : gS) => Option.bind (f_X10_takeUp q176.1 s180) (fun q182 => gLet (gMix s180 q182.2) (fun s183 => gLet (fun (j184 : Int32) (j185 : Int32) (s186 : gS) => gLet (fun (j188 : Int32) (s189 : gS) => J6 j188 s189) (fun J190 => if j184 = j185 then (J190 1 s186) else (J190 0 s186))) (fun J187 => if j177 = 0 then (J187 q182.1 (s183 306 4) s183) else (J187 q182.1 (-1) s183))))) (fun J181 => if j177 = 0 then (gLet (up2 s178 306 4 ((s178 306 4) - 1)) (fun s194 => f_L_law_L499 Lx xs e7 q176.1 j177 (fun (s202 : gS) => f_L_law_L537 Lx xs e7 q176.1 j177 (fun (s215 : gS) => J181 s215) gFu 4 s202) gFu q176.1 s194)) else (J181 s178))) (fun J179 => if q176.1 = (q176.2 306 4) then (J179 1 q176.2) else (J179 0 q176.2)))) else (if q2.1 = 7 then (Option.bind (f_L_low (q1.1 >>> (7 &&& 31)) 2 s31) (fun q147 => gLet (fun (j148 : Int32) (s149 : gS) => Option.bind (f_X10_set q147.1 j148 s149) (fun q151 => gLet (gMix s149 q151.2) (fun s152 => gGd (gin q147.1 6) (gLet (fun (j154 : Int32) (s155 : gS) => gGd (gin q147.1 6) (gLet (up2 s155 306 (gil q147.1) j148) (fun s157 => J6 j154 s157))) (fun J156 => if q151.1 = (s152 306 (gil q147.1)) then (J156 1 s152) else (J156 0 s152)))))) (fun J150 => if q147.1 = 0 then (Option.bind (f_L_low (q1.1 >>> (25 &&& 31)) 2 q147.2) (fun q168 => gLet (fun (j169 : Int32) (j170 : Int32) (j171 : Int32) (s172 : gS) => Option.bind (f_L_low j170 j171 s172) (fun q174 => J150 (j169 + q174.1) q174.2)) (fun J173 => if q168.1 = 0 then (J173 10 (q1.1 >>> (8 &&& 31)) 191 q168.2) else (J173 10 (q1.1 >>> (8 &&& 31)) 20 q168.2)))) else (Option.bind (f_L_low (q1.1 >>> (25 &&& 31)) 2 q147.2) (fun q161 => gLet (fun (j162 : Int32) (j163 : Int32) (s164 : gS) => Option.bind (f_L_low j162 j163 s164) (fun q166 => J150 q166.1 q166.2)) (fun J165 => if q161.1 = 0 then (J165 (q1.1 >>> (8 &&& 31)) 61 q161.2) else (J165 (q1.1 >>> (8 &&& 31)) 8 q161.2))))))) else (if q2.1 = 8 then (Option.bind (f_L_low (q1.1 >>> (7 &&& 31)) 10 s31) (fun q137 => Option.bind (f_X10_put q3.1 q137.1 q137.2) (fun q138 => gLet (gMix q137.2 q138.2) (fun s139 => gGd (gin q3.1 12) (gLet (fun (j141 : Int32) (s142 : gS) => gGd (gin q3.1 12) (gLet (up2 s142 304 (gil q3.1) q137.1) (fun s144 => J6 j141 s144))) (fun J143 => if q138.1 = (s139 304 (gil q3.1)) then (J143 1 s139) else (J143 0 s139))))))) else (if 15 ≤ q2.1 then (if 17 ≤ q2.1 then (Option.bind (f_L_low (q1.1 >>> (25 &&& 31)) 3 s31) (fun q38 => gLet (fun (j39 : Int32) (j40 : Int32) (j41 : Int32) (s42 : gS) => Option.bind (f_L_low j40 j41 s42) (fun q44 => gLet (j39 + q44.1) (fun x45 => Option.bind (f_L_pass x45 q44.2) (fun q46 => Option.bind (f_X10_pass x45 q46.2) (fun q47 => gLet (gMix q46.2 q47.2) (fun s48 => gLet (fun (j49 : Int32) (s50 : gS) => J6 j49 s50) (fun J51 => if q47.1 = q46.1 then (J51 1 s48) else (J51 0 s48)))))))) (fun J43 => if q38.1 = 0 then (J43 1 (q1.1 >>> (7 &&& 31)) 200 q38.2) else (J43 1 (q1.1 >>> (7 &&& 31)) 20 q38.2)))) else (Option.bind (f_L_low (q1.1 >>> (7 &&& 31)) 10 s31) (fun q54 => Option.bind (f_L_open q3.1 q54.2) (fun q55 => Option.bind (f_L_costs q54.1 q55.1 q55.2) (fun q56 => gLet (q56 307) (fun Dc => gGd (gin q3.1 12) (gGd (gin (q56 304 (gil q3.1)) 10) (gLet (fun (j59 : Int32) (s60 : gS) => if j59 = 0 then (f_L_law_L1077 Lx xs Dc e7 q3.1 q54.1 q55.1 j59 (fun (s84 : gS) => Option.bind (f_X10_go q3.1 q54.1 s84) (fun q85 => gLet (gMix s84 q85.2) (fun s86 => gLet (fun (j87 : Int32) (j88 : Int32) (s89 : gS) => gLet (fun (j91 : Int32) (s92 : gS) => J6 j91 s92) (fun J93 => if j87 = j88 then (J93 1 s89) else (J93 0 s89))) (fun J90 => if j59 = 0 then (gGd (gin q3.1 12) (J90 q85.1 (s86 304 (gil q3.1)) s86)) else (J90 q85.1 (-5) s86))))) gFu 1 s60) else (f_L_law_L1077 Lx xs Dc e7 q3.1 q54.1 q55.1 j59 (fun (s71 : gS) => Option.bind (f_X10_go q3.1 q54.1 s71) (fun q72 => gLet (gMix s71 q72.2) (fun s73 => gLet (fun (j74 : Int32) (j75 : Int32) (s76 : gS) => gLet (fun (j78 : Int32) (s79 : gS) => J6 j78 s79) (fun J80 => if j74 = j75 then (J80 1 s76) else (J80 0 s76))) (fun J77 => if j59 = 0 then (gGd (gin q3.1 12) (J77 q72.1 (s73 304 (gil q3.1)) s73)) else (J77 q72.1 (-5) s73))))) gFu 0 s60)) (fun J61 => if (Dc (gil (q56 304 (gil q3.1)))) < 99999 then (J61 0 q56) else (J61 1 q56)))))))))) else (Option.bind (f_L_low (q1.1 >>> (7 &&& 31)) (s31 306 4) s31) (fun q98 => f_L_law_L848 Lx xs e7 q3.1 (fun (k108 : Int32) (s109 : gS) => Option.bind (f_L_one k108 s109) (fun q110 => gGd (gin q3.1 12) (gLet (fun (j112 : Int32) (s113 : gS) => Option.bind (f_X10_glide q3.1 k108 s113) (fun q115 => gLet (gMix s113 q115.2) (fun s116 => gLet (fun (j117 : Int32) (j118 : Int32) (s119 : gS) => gLet (fun (j121 : Int32) (s122 : gS) => J6 j121 s122) (fun J123 => if j117 = j118 then (J123 1 s119) else (J123 0 s119))) (fun J120 => if j112 = 0 then (J120 q115.1 (-5) s116) else (Option.bind (f_L_glide q3.1 k108 s116) (fun q126 => J120 q115.1 q126.1 q126.2)))))) (fun J114 => gLet (fun (s127 : gS) => J114 0 s127) (fun J128 => gLet (fun (s129 : gS) => Option.bind (f_L_free q3.1 k108 s129) (fun q131 => if q131.1 = 0 then (J128 q131.2) else (J114 1 q131.2))) (fun J130 => if q110.1 = (q110.2 304 (gil q3.1)) then (J130 q110.2) else (Option.bind (f_L_two k108 q110.2) (fun q134 => gGd (gin q3.1 12) (if q134.1 = (q134.2 304 (gil q3.1)) then (J130 q134.2) else (J128 q134.2)))))))))) gFu q98.1 0 q98.2)))))) (fun J32 => if q2.1 = 5 then (if 5 ≤ (s29 306 5) then (J32 s29) else (gLet (s29 306 5) (fun x220 => Option.bind (f_L_low (q1.1 >>> (7 &&& 31)) 10 s29) (fun q221 => gGd (gin x220 20) (gLet (up2 q221.2 305 (gil x220) q221.1) (fun s222 => Option.bind (f_L_low (q1.1 >>> (11 &&& 31)) 9 s222) (fun q223 => gGd (gin (5 + x220) 20) (gLet (up2 q223.2 305 (gil (5 + x220)) (1 + q223.1)) (fun s224 => gGd (gin (10 + x220) 20) (gLet (up2 s224 305 (gil (10 + x220)) 0) (fun s225 => gGd (gin (15 + x220) 20) (gLet (up2 s225 305 (gil (15 + x220)) 0) (fun s226 => gLet (up2 s226 306 5 ((s226 306 5) + 1)) (fun s227 => gGd (gin x220 20) (gGd (gin (5 + x220) 20) (Option.bind (f_X10_sleeper (s227 305 (gil x220)) (s227 305 (gil (5 + x220))) s227) (fun q230 => gLet (gMix s227 q230.2) (fun s231 => gLet (fun (j232 : Int32) (s233 : gS) => J6 j232 s233) (fun J234 => if q230.1 = x220 then (J234 1 s231) else (J234 0 s231)))))))))))))))))))) else (J32 s29))) (fun J30 => gLet (fun (s241 : gS) => if 20 ≤ (s241 306 4) then (J30 s241) else (Option.bind (f_L_low (q1.1 >>> (25 &&& 31)) 2 s241) (fun q244 => gLet (fun (j245 : Int32) (j246 : Int32) (s247 : gS) => Option.bind (f_L_low j245 j246 s247) (fun q249 => Option.bind (f_L_low (q1.1 >>> (25 &&& 31)) 2 q249.2) (fun q250 => gLet (fun (j251 : Int32) (j252 : Int32) (s253 : gS) => Option.bind (f_L_low j251 j252 s253) (fun q255 => gLet (fun (j256 : Int32) (s257 : gS) => gLet (s257 306 4) (fun x259 => gLet (fun (s260 : gS) => Option.bind (f_L_low (q1.1 >>> (15 &&& 31)) 9 s260) (fun q262 => Option.bind (f_L_low (q1.1 >>> (18 &&& 31)) 9 q262.2) (fun q263 => Option.bind (f_X10_lay q249.1 q255.1 (1 + q262.1) (1 + q263.1) q263.2) (fun q264 => gLet (gMix q263.2 q264.2) (fun s265 => gLet (fun (j266 : Int32) (j267 : Int32) (s268 : gS) => gLet (fun (j270 : Int32) (s271 : gS) => J6 j270 s271) (fun J272 => if j266 = j267 then (J272 1 s268) else (J272 0 s268))) (fun J269 => if j256 = 0 then (J269 q264.1 x259 s265) else (J269 q264.1 (-2) s265))))))) (fun J261 => if j256 = 0 then (gLet (fun (j276 : Int32) (j277 : Int32) (s278 : gS) => gLet (fun (j280 : Int32) (j281 : Int32) (j282 : Int32) (j283 : Int32) (s284 : gS) => Option.bind (f_L_low (q1.1 >>> (15 &&& 31)) 9 s284) (fun q286 => Option.bind (f_L_low (q1.1 >>> (18 &&& 31)) 9 q286.2) (fun q287 => gGd (gin j280 20) (gLet (up2 q287.2 302 (gil j280) (((j281 + (j282 * j283)) + (256 * (1 + q286.1))) + (4096 * (1 + q287.1)))) (fun s288 => gGd (gin x259 20) (gLet (up2 s288 303 (gil x259) 0) (fun s289 => gLet (up2 s289 306 4 ((s289 306 4) + 1)) (fun s290 => J261 s290)))))))) (fun J285 => if q255.1 ≤ q249.1 then (J285 j276 j277 16 q249.1 s278) else (J285 j276 j277 16 q255.1 s278))) (fun J279 => if q255.1 ≤ q249.1 then (J279 x259 q255.1 s257) else (J279 x259 q249.1 s257))) else (J261 s257)))) (fun J258 => if q249.1 = q255.1 then (J258 1 q255.2) else (J258 0 q255.2)))) (fun J254 => if q250.1 = 0 then (J254 (q1.1 >>> (11 &&& 31)) 10 q250.2) else (J254 (q1.1 >>> (11 &&& 31)) 5 q250.2))))) (fun J248 => if q244.1 = 0 then (J248 (q1.1 >>> (7 &&& 31)) 10 q244.2) else (J248 (q1.1 >>> (7 &&& 31)) 5 q244.2))))) (fun J242 => if q2.1 < 5 then (J242 q3.2) else (if 4 ≤ (q3.2 306 4) then (J30 q3.2) else (J242 q3.2))))))))
set_option maxHeartbeats 4000000 in
set_option maxRecDepth 100000 in
theorem w_L_law_L1077 (Lx : Nat) (xs : Nat → Int32) (Dc : Nat → Int32) (ab : Nat) (qc : Nat) (hfr : 10 ≤ R.frames) (hlo : 408 ≤ R.locals) (hcc : cc + 2 ≤ R.cells) (hss : ss + 20 ≤ R.slots) (w7 : Int32) (w10 : Int32) (w12 : Int32) (w13 : Int32) (w15 : Int32) (K1149 : gS → Option (gS)) {q : gS} (K : gK p s m args meth c G cL_law 18 RL (some .boolean)) (hK1149 : ∀ (σ : gS), K1149 σ = some q → ∀ (H : Heap) (locs : List Loc) (ls : Array Slot), hSt G o [(ab, Lx, xs), (qc, 10, Dc)] s σ H locs → lv_has ls 18 [(0, .ref ab), (1, .ref (o + 0)), (2, .ref (o + 302)), (3, .ref (o + 303)), (4, .ref (o + 304)), (5, .ref (o + 305)), (6, .ref (o + 306)), (7, .int w7), (10, .int w10), (12, .int w12), (15, .int w15)] → W p l e R s m args below meth c H locs (cc + 1) (ss + 10) Q (F0 m 1149 ls [])) : ∀ (n : Nat) (v16 : Int32) (σ : gS), f_L_law_L1077 Lx xs Dc w7 w10 w12 w13 w15 K1149 n v16 σ = some q → ∀ (H : Heap) (locs : List Loc) (ls : Array Slot), hSt G o [(ab, Lx, xs), (qc, 10, Dc)] s σ H locs → lv_has ls 18 [(0, .ref ab), (1, .ref (o + 0)), (2, .ref (o + 302)), (3, .ref (o + 303)), (4, .ref (o + 304)), (5, .ref (o + 305)), (6, .ref (o + 306)), (7, .int w7), (10, .int w10), (12, .int w12), (13, .int w13), (14, .ref qc), (15, .int w15), (16, .int v16)] → W p l e R s m args below meth c H locs (cc + 1) (ss + 10) Q (F0 m 1077 ls []) := by
  obtain ⟨hx, hb, hml, hown, hts, -⟩ := id K
  intro n
  induction n with
  | zero =>
    intro v16 σ hf
    exact absurd (show (none : Option _) = some q from hf) (by simp)
  | succ n ih =>
    intro v16 σ hf H locs ls hS hl
    rw [f_L_law_L1077_s] at hf
    refine lv_iload hx hb dL_law_1077 (lv_at hl 13 rfl) ?_
    refine lv_if_eq (tgt := 1149) hx hb dL_law_1079 (by decide) (fun c63 => ?_) (fun c63 => ?_)
    · have hf := gIf_t c63 hf
      exact hK1149 σ hf _ _ _ hS (lv_sub hl [0, 1, 2, 3, 4, 5, 6, 7, 8, 9, 12] rfl)
    · have hf := gIf_f c63 hf
      refine lv_aload hx hb dL_law_1082 (lv_at hl 4 rfl) ?_
      refine lv_iload hx hb dL_law_1084 (lv_at hl 8 rfl) ?_
      obtain ⟨h64, hf⟩ := gGd_some hf
      refine h_iald (cx := 304) K hS (eLL_304 G o) (by decide) h64 rfl dL_law_1086 ?_
      refine lv_iload hx hb dL_law_1087 (lv_at hl 9 rfl) ?_
      refine lv_icmp_eq (tgt := 1149) hx hb dL_law_1089 (by decide) (fun c65 => ?_) (fun c65 => ?_)
      · have hf := gIf_t c65 hf
        exact hK1149 σ hf _ _ _ hS (lv_sub hl [0, 1, 2, 3, 4, 5, 6, 7, 8, 9, 12] rfl)
      · have hf := gIf_f c65 hf
        refine lv_aload_n hx hb dL_law_1092 rfl (lv_at hl 2 rfl) ?_
        refine lv_aload hx hb dL_law_1093 (lv_at hl 6 rfl) ?_
        refine lv_aload hx hb dL_law_1095 (lv_at hl 11 rfl) ?_
        refine lv_aload hx hb dL_law_1097 (lv_at hl 4 rfl) ?_
        refine lv_iload hx hb dL_law_1099 (lv_at hl 8 rfl) ?_
        obtain ⟨h66, hf⟩ := gGd_some hf
        refine h_iald (cx := 304) K hS (eLL_304 G o) (by decide) h66 rfl dL_law_1101 ?_
        refine lv_iload hx hb dL_law_1102 (lv_at hl 10 rfl) ?_
        obtain ⟨q67, hq67, hf⟩ := Option.bind_eq_some_iff.mp hf
        refine h_Si0 (X' := [(qc, 10, Dc)]) (As := [.ref (o + 302), .ref (o + 306), .ref qc, .int (σ 304 (gil w10)), .int w13]) K hS lS_L_72 (by simp) (c_L_first Dc qc (σ 304 (gil w10)) w13 σ q67 hq67) rfl rfl (Nat.le_of_ble_eq_true rfl) ⟨rfl, rfl⟩ ⟨Nat.le_trans (Nat.le_of_ble_eq_true rfl) hfr, Nat.le_trans (Nat.le_of_ble_eq_true rfl) hlo⟩ hl.1 ⟨by omega, by omega⟩ dL_law_1104 (fun H locs hS => ?_)
        refine lv_istore (lv' := [(17, .int q67.1), (0, .ref ab), (1, .ref (o + 0)), (2, .ref (o + 302)), (3, .ref (o + 303)), (4, .ref (o + 304)), (5, .ref (o + 305)), (6, .ref (o + 306)), (7, .int w7), (10, .int w10), (12, .int w12), (13, .int w13), (14, .ref qc), (15, .int w15), (16, .int v16)]) hx hb dL_law_1107 hl (by decide) rfl (fun ls hl => ?_)
        refine lv_aload_n hx hb dL_law_1109 rfl (lv_at hl 3 rfl) ?_
        refine lv_aload hx hb dL_law_1110 (lv_at hl 5 rfl) ?_
        refine lv_aload hx hb dL_law_1112 (lv_at hl 6 rfl) ?_
        refine lv_aload hx hb dL_law_1114 (lv_at hl 7 rfl) ?_
        refine lv_iload hx hb dL_law_1116 (lv_at hl 9 rfl) ?_
        refine lv_iload hx hb dL_law_1118 (lv_at hl 0 rfl) ?_
        obtain ⟨q68, hq68, hf⟩ := Option.bind_eq_some_iff.mp hf
        refine h_Si0 (X' := []) (As := [.ref (o + 302), .ref (o + 304), .ref (o + 305), .ref (o + 306), .int w10, .int q67.1]) K hS lS_L_40 (by simp) (c_L_free w10 q67.1 q67.2 q68 hq68) rfl rfl (Nat.le_of_ble_eq_true rfl) ⟨rfl, rfl⟩ ⟨Nat.le_trans (Nat.le_of_ble_eq_true rfl) hfr, Nat.le_trans (Nat.le_of_ble_eq_true rfl) hlo⟩ hl.1 ⟨by omega, by omega⟩ dL_law_1120 (fun H locs hS => ?_)
        refine lv_istore (lv' := [(16, .int q68.1), (17, .int q67.1), (0, .ref ab), (1, .ref (o + 0)), (2, .ref (o + 302)), (3, .ref (o + 303)), (4, .ref (o + 304)), (5, .ref (o + 305)), (6, .ref (o + 306)), (7, .int w7), (10, .int w10), (12, .int w12), (13, .int w13), (14, .ref qc), (15, .int w15)]) hx hb dL_law_1123 hl (by decide) rfl (fun ls hl => ?_)
        refine lv_iload hx hb dL_law_1125 (lv_at hl 0 rfl) ?_
        refine lv_if_eq (tgt := 1146) hx hb dL_law_1127 (by decide) (fun c69 => ?_) (fun c69 => ?_)
        · have hf := gIf_t c69 hf
          refine lv_goto (tgt := 1077) hx hb dL_law_1146 (by decide) ?_
          exact ih q68.1 q68.2 hf _ _ _ hS (lv_sub hl [2, 3, 4, 5, 6, 7, 8, 9, 10, 11, 12, 13, 14, 0] rfl)
        · have hf := gIf_f c69 hf
          refine lv_aload_n hx hb dL_law_1130 rfl (lv_at hl 4 rfl) ?_
          refine lv_aload_n hx hb dL_law_1131 rfl (lv_at hl 5 rfl) ?_
          refine lv_aload hx hb dL_law_1132 (lv_at hl 6 rfl) ?_
          refine lv_aload hx hb dL_law_1134 (lv_at hl 7 rfl) ?_
          refine lv_aload hx hb dL_law_1136 (lv_at hl 8 rfl) ?_
          refine lv_iload hx hb dL_law_1138 (lv_at hl 10 rfl) ?_
          refine lv_iload hx hb dL_law_1140 (lv_at hl 1 rfl) ?_
          obtain ⟨q70, hq70, hf⟩ := Option.bind_eq_some_iff.mp hf
          refine h_Si0 (X' := []) (As := [.ref (o + 302), .ref (o + 303), .ref (o + 304), .ref (o + 305), .ref (o + 306), .int w10, .int q67.1]) K hS lS_L_139 (by simp) (c_L_glide w10 q67.1 q68.2 q70 hq70) rfl rfl (Nat.le_of_ble_eq_true rfl) ⟨rfl, rfl⟩ ⟨Nat.le_trans (Nat.le_of_ble_eq_true rfl) hfr, Nat.le_trans (Nat.le_of_ble_eq_true rfl) hlo⟩ hl.1 ⟨by omega, by omega⟩ dL_law_1142 (fun H locs hS => ?_)
          refine lv_pop hx hb dL_law_1145 rfl ?_
          refine lv_goto (tgt := 1077) hx hb dL_law_1146 (by decide) ?_
          exact ih q68.1 q70.2 hf _ _ _ hS (lv_sub hl [2, 3, 4, 5, 6, 7, 8, 9, 10, 11, 12, 13, 14, 0] rfl)
set_option maxHeartbeats 4000000 in
set_option maxRecDepth 100000 in
theorem w_L_law_L848 (Lx : Nat) (xs : Nat → Int32) (ab : Nat) (hfr : 10 ≤ R.frames) (hlo : 408 ≤ R.locals) (hcc : cc + 2 ≤ R.cells) (hss : ss + 20 ≤ R.slots) (w7 : Int32) (w10 : Int32) (K902 : Int32 → gS → Option (gS)) {q : gS} (K : gK p s m args meth c G cL_law 18 RL (some .boolean)) (hK902 : ∀ (k12 : Int32) (σ : gS), K902 k12 σ = some q → ∀ (H : Heap) (locs : List Loc) (ls : Array Slot), hSt G o [(ab, Lx, xs)] s σ H locs → lv_has ls 18 [(0, .ref ab), (1, .ref (o + 0)), (2, .ref (o + 302)), (3, .ref (o + 303)), (4, .ref (o + 304)), (5, .ref (o + 305)), (6, .ref (o + 306)), (7, .int w7), (10, .int w10), (12, .int k12)] → W p l e R s m args below meth c H locs cc ss Q (F0 m 902 ls [])) : ∀ (n : Nat) (v12 : Int32) (v13 : Int32) (σ : gS), f_L_law_L848 Lx xs w7 w10 K902 n v12 v13 σ = some q → ∀ (H : Heap) (locs : List Loc) (ls : Array Slot), hSt G o [(ab, Lx, xs)] s σ H locs → lv_has ls 18 [(0, .ref ab), (1, .ref (o + 0)), (2, .ref (o + 302)), (3, .ref (o + 303)), (4, .ref (o + 304)), (5, .ref (o + 305)), (6, .ref (o + 306)), (7, .int w7), (10, .int w10), (12, .int v12), (13, .int v13)] → W p l e R s m args below meth c H locs cc ss Q (F0 m 848 ls []) := by
  obtain ⟨hx, hb, hml, hown, hts, -⟩ := id K
  intro n
  induction n with
  | zero =>
    intro v12 v13 σ hf
    exact absurd (show (none : Option _) = some q from hf) (by simp)
  | succ n ih =>
    intro v12 v13 σ hf H locs ls hS hl
    rw [f_L_law_L848_s] at hf
    refine lv_iload hx hb dL_law_848 (lv_at hl 10 rfl) ?_
    refine lv_aload hx hb dL_law_850 (lv_at hl 6 rfl) ?_
    refine lv_iconst (v := 4) hx hb dL_law_852 (by decide) ?_
    refine h_iald (cx := 306) (j := 4) K hS (eLL_306 G o) (by decide) (by decide) (by decide) dL_law_853 ?_
    refine lv_icmp_ge (tgt := 902) hx hb dL_law_854 (by decide) (fun c99 => ?_) (fun c99 => ?_)
    · have hf := gIf_t c99 hf
      exact hK902 v12 σ hf _ _ _ hS (lv_sub hl [0, 1, 2, 3, 4, 5, 6, 7, 8, 9] rfl)
    · have hf := gIf_f c99 hf
      refine lv_aload_n hx hb dL_law_857 rfl (lv_at hl 2 rfl) ?_
      refine lv_iload hx hb dL_law_858 (lv_at hl 9 rfl) ?_
      obtain ⟨q100, hq100, hf⟩ := Option.bind_eq_some_iff.mp hf
      refine h_Si0 (X' := []) (As := [.ref (o + 302), .int v12]) K hS lS_L_10 (by simp) (c_L_one v12 σ q100 hq100) rfl rfl (Nat.le_of_ble_eq_true rfl) ⟨rfl, rfl⟩ ⟨Nat.le_trans (Nat.le_of_ble_eq_true rfl) hfr, Nat.le_trans (Nat.le_of_ble_eq_true rfl) hlo⟩ hl.1 ⟨by omega, by omega⟩ dL_law_860 (fun H locs hS => ?_)
      refine lv_aload hx hb dL_law_863 (lv_at hl 4 rfl) ?_
      refine lv_iload hx hb dL_law_865 (lv_at hl 8 rfl) ?_
      obtain ⟨h101, hf⟩ := gGd_some hf
      refine h_iald (cx := 304) K hS (eLL_304 G o) (by decide) h101 rfl dL_law_867 ?_
      refine lv_icmp_eq (tgt := 902) hx hb dL_law_868 (by decide) (fun c102 => ?_) (fun c102 => ?_)
      · have hf := gIf_t c102 hf
        exact hK902 v12 q100.2 hf _ _ _ hS (lv_sub hl [0, 1, 2, 3, 4, 5, 6, 7, 8, 9] rfl)
      · have hf := gIf_f c102 hf
        refine lv_aload_n hx hb dL_law_871 rfl (lv_at hl 2 rfl) ?_
        refine lv_iload hx hb dL_law_872 (lv_at hl 9 rfl) ?_
        obtain ⟨q103, hq103, hf⟩ := Option.bind_eq_some_iff.mp hf
        refine h_Si0 (X' := []) (As := [.ref (o + 302), .int v12]) K hS lS_L_16 (by simp) (c_L_two v12 q100.2 q103 hq103) rfl rfl (Nat.le_of_ble_eq_true rfl) ⟨rfl, rfl⟩ ⟨Nat.le_trans (Nat.le_of_ble_eq_true rfl) hfr, Nat.le_trans (Nat.le_of_ble_eq_true rfl) hlo⟩ hl.1 ⟨by omega, by omega⟩ dL_law_874 (fun H locs hS => ?_)
        refine lv_aload hx hb dL_law_877 (lv_at hl 4 rfl) ?_
        refine lv_iload hx hb dL_law_879 (lv_at hl 8 rfl) ?_
        obtain ⟨h104, hf⟩ := gGd_some hf
        refine h_iald (cx := 304) K hS (eLL_304 G o) (by decide) h104 rfl dL_law_881 ?_
        refine lv_icmp_eq (tgt := 902) hx hb dL_law_882 (by decide) (fun c105 => ?_) (fun c105 => ?_)
        · have hf := gIf_t c105 hf
          exact hK902 v12 q103.2 hf _ _ _ hS (lv_sub hl [0, 1, 2, 3, 4, 5, 6, 7, 8, 9] rfl)
        · have hf := gIf_f c105 hf
          refine lv_iload hx hb dL_law_885 (lv_at hl 9 rfl) ?_
          refine lv_iconst (v := 1) hx hb dL_law_887 (by decide) ?_
          refine lv_iadd hx hb dL_law_888 ?_
          refine lv_aload hx hb dL_law_889 (lv_at hl 6 rfl) ?_
          refine lv_iconst (v := 4) hx hb dL_law_891 (by decide) ?_
          refine h_iald (cx := 306) (j := 4) K hS (eLL_306 G o) (by decide) (by decide) (by decide) dL_law_892 ?_
          obtain ⟨h106, hf⟩ := gGd_some hf
          refine lv_irem hx hb dL_law_893 (gne_ne h106) ?_
          obtain ⟨x107, hx107, hf⟩ := gLet_some hf
          refine g_top hx107 ?_
          refine lv_istore (lv' := [(12, .int x107), (0, .ref ab), (1, .ref (o + 0)), (2, .ref (o + 302)), (3, .ref (o + 303)), (4, .ref (o + 304)), (5, .ref (o + 305)), (6, .ref (o + 306)), (7, .int w7), (10, .int w10), (13, .int v13)]) hx hb dL_law_894 hl (by decide) rfl (fun ls hl => ?_)
          refine lv_iinc (v := (v13 + 1)) (lv' := [(13, .int (v13 + 1)), (12, .int x107), (0, .ref ab), (1, .ref (o + 0)), (2, .ref (o + 302)), (3, .ref (o + 303)), (4, .ref (o + 304)), (5, .ref (o + 305)), (6, .ref (o + 306)), (7, .int w7), (10, .int w10)]) hx hb dL_law_896 hl (k := 10) rfl rfl (by decide) rfl (fun ls hl => ?_)
          refine lv_goto (tgt := 848) hx hb dL_law_899 (by decide) ?_
          exact ih x107 (v13 + 1) q103.2 hf _ _ _ hS (lv_sub hl [2, 3, 4, 5, 6, 7, 8, 9, 10, 1, 0] rfl)
set_option maxHeartbeats 4000000 in
set_option maxRecDepth 100000 in
theorem w_L_law_L499 (Lx : Nat) (xs : Nat → Int32) (ab : Nat) (hfr : 10 ≤ R.frames) (hlo : 408 ≤ R.locals) (hcc : cc + 2 ≤ R.cells) (hss : ss + 20 ≤ R.slots) (w7 : Int32) (w12 : Int32) (w13 : Int32) (K534 : gS → Option (gS)) {q : gS} (K : gK p s m args meth c G cL_law 18 RL (some .boolean)) (hK534 : ∀ (σ : gS), K534 σ = some q → ∀ (H : Heap) (locs : List Loc) (ls : Array Slot), hSt G o [(ab, Lx, xs)] s σ H locs → lv_has ls 18 [(0, .ref ab), (1, .ref (o + 0)), (2, .ref (o + 302)), (3, .ref (o + 303)), (4, .ref (o + 304)), (5, .ref (o + 305)), (6, .ref (o + 306)), (7, .int w7), (12, .int w12), (13, .int w13)] → W p l e R s m args below meth c H locs cc ss Q (F0 m 534 ls [])) : ∀ (n : Nat) (v14 : Int32) (σ : gS), f_L_law_L499 Lx xs w7 w12 w13 K534 n v14 σ = some q → ∀ (H : Heap) (locs : List Loc) (ls : Array Slot), hSt G o [(ab, Lx, xs)] s σ H locs → lv_has ls 18 [(0, .ref ab), (1, .ref (o + 0)), (2, .ref (o + 302)), (3, .ref (o + 303)), (4, .ref (o + 304)), (5, .ref (o + 305)), (6, .ref (o + 306)), (7, .int w7), (12, .int w12), (13, .int w13), (14, .int v14)] → W p l e R s m args below meth c H locs cc ss Q (F0 m 499 ls []) := by
  obtain ⟨hx, hb, hml, hown, hts, -⟩ := id K
  intro n
  induction n with
  | zero =>
    intro v14 σ hf
    exact absurd (show (none : Option _) = some q from hf) (by simp)
  | succ n ih =>
    intro v14 σ hf H locs ls hS hl
    rw [f_L_law_L499_s] at hf
    refine lv_iload hx hb dL_law_499 (lv_at hl 10 rfl) ?_
    refine lv_aload hx hb dL_law_501 (lv_at hl 6 rfl) ?_
    refine lv_iconst (v := 4) hx hb dL_law_503 (by decide) ?_
    refine h_iald (cx := 306) (j := 4) K hS (eLL_306 G o) (by decide) (by decide) (by decide) dL_law_504 ?_
    refine lv_icmp_ge (tgt := 534) hx hb dL_law_505 (by decide) (fun c195 => ?_) (fun c195 => ?_)
    · have hf := gIf_t c195 hf
      exact hK534 σ hf _ _ _ hS (lv_sub hl [0, 1, 2, 3, 4, 5, 6, 7, 8, 9] rfl)
    · have hf := gIf_f c195 hf
      refine lv_aload_n hx hb dL_law_508 rfl (lv_at hl 2 rfl) ?_
      refine lv_iload hx hb dL_law_509 (lv_at hl 10 rfl) ?_
      refine lv_aload_n hx hb dL_law_511 rfl (lv_at hl 2 rfl) ?_
      refine lv_iload hx hb dL_law_512 (lv_at hl 10 rfl) ?_
      refine lv_iconst (v := 1) hx hb dL_law_514 (by decide) ?_
      refine lv_iadd hx hb dL_law_515 ?_
      obtain ⟨h196, hf⟩ := gGd_some hf
      refine h_iald (cx := 302) K hS (eLL_302 G o) (by decide) h196 rfl dL_law_516 ?_
      obtain ⟨h201, hf⟩ := gGd_some hf
      obtain ⟨s197, hs197, hf⟩ := gLet_some hf
      refine h_iast (cx := 302) K hS (eLL_302 G o) (by decide) h201 rfl dL_law_517 (fun H locs hS => ?_)
      rw [← hs197] at hS
      refine lv_aload_n hx hb dL_law_518 rfl (lv_at hl 3 rfl) ?_
      refine lv_iload hx hb dL_law_519 (lv_at hl 10 rfl) ?_
      refine lv_aload_n hx hb dL_law_521 rfl (lv_at hl 3 rfl) ?_
      refine lv_iload hx hb dL_law_522 (lv_at hl 10 rfl) ?_
      refine lv_iconst (v := 1) hx hb dL_law_524 (by decide) ?_
      refine lv_iadd hx hb dL_law_525 ?_
      obtain ⟨h198, hf⟩ := gGd_some hf
      refine h_iald (cx := 303) K hS (eLL_303 G o) (by decide) h198 rfl dL_law_526 ?_
      obtain ⟨h200, hf⟩ := gGd_some hf
      obtain ⟨s199, hs199, hf⟩ := gLet_some hf
      refine h_iast (cx := 303) K hS (eLL_303 G o) (by decide) h200 rfl dL_law_527 (fun H locs hS => ?_)
      rw [← hs199] at hS
      refine lv_iinc (v := (v14 + 1)) (lv' := [(14, .int (v14 + 1)), (0, .ref ab), (1, .ref (o + 0)), (2, .ref (o + 302)), (3, .ref (o + 303)), (4, .ref (o + 304)), (5, .ref (o + 305)), (6, .ref (o + 306)), (7, .int w7), (12, .int w12), (13, .int w13)]) hx hb dL_law_528 hl (k := 10) rfl rfl (by decide) rfl (fun ls hl => ?_)
      refine lv_goto (tgt := 499) hx hb dL_law_531 (by decide) ?_
      exact ih (v14 + 1) s199 hf _ _ _ hS (lv_sub hl [1, 2, 3, 4, 5, 6, 7, 8, 9, 10, 0] rfl)
set_option maxHeartbeats 4000000 in
set_option maxRecDepth 100000 in
theorem w_L_law_L550 (Lx : Nat) (xs : Nat → Int32) (ab : Nat) (hfr : 10 ≤ R.frames) (hlo : 408 ≤ R.locals) (hcc : cc + 2 ≤ R.cells) (hss : ss + 20 ≤ R.slots) (w7 : Int32) (w12 : Int32) (w13 : Int32) (w14 : Int32) (K608 : Int32 → gS → Option (gS)) {q : gS} (K : gK p s m args meth c G cL_law 18 RL (some .boolean)) (hK608 : ∀ (k15 : Int32) (σ : gS), K608 k15 σ = some q → ∀ (H : Heap) (locs : List Loc) (ls : Array Slot), hSt G o [(ab, Lx, xs)] s σ H locs → lv_has ls 18 [(0, .ref ab), (1, .ref (o + 0)), (2, .ref (o + 302)), (3, .ref (o + 303)), (4, .ref (o + 304)), (5, .ref (o + 305)), (6, .ref (o + 306)), (7, .int w7), (12, .int w12), (13, .int w13), (14, .int w14), (15, .int k15)] → W p l e R s m args below meth c H locs cc ss Q (F0 m 608 ls [])) : ∀ (n : Nat) (v15 : Int32) (v16 : Int32) (σ : gS), f_L_law_L550 Lx xs w7 w12 w13 w14 K608 n v15 v16 σ = some q → ∀ (H : Heap) (locs : List Loc) (ls : Array Slot), hSt G o [(ab, Lx, xs)] s σ H locs → lv_has ls 18 [(0, .ref ab), (1, .ref (o + 0)), (2, .ref (o + 302)), (3, .ref (o + 303)), (4, .ref (o + 304)), (5, .ref (o + 305)), (6, .ref (o + 306)), (7, .int w7), (12, .int w12), (13, .int w13), (14, .int w14), (15, .int v15), (16, .int v16)] → W p l e R s m args below meth c H locs cc ss Q (F0 m 550 ls []) := by
  obtain ⟨hx, hb, hml, hown, hts, -⟩ := id K
  intro n
  induction n with
  | zero =>
    intro v15 v16 σ hf
    exact absurd (show (none : Option _) = some q from hf) (by simp)
  | succ n ih =>
    intro v15 v16 σ hf H locs ls hS hl
    rw [f_L_law_L550_s] at hf
    refine lv_iload hx hb dL_law_550 (lv_at hl 12 rfl) ?_
    refine lv_aload hx hb dL_law_552 (lv_at hl 6 rfl) ?_
    refine lv_iconst (v := 4) hx hb dL_law_554 (by decide) ?_
    refine h_iald (cx := 306) (j := 4) K hS (eLL_306 G o) (by decide) (by decide) (by decide) dL_law_555 ?_
    refine lv_icmp_gt (tgt := 608) hx hb dL_law_556 (by decide) (fun c204 => ?_) (fun c204 => ?_)
    · have hf := gIf_t c204 hf
      exact hK608 v15 σ hf _ _ _ hS (lv_sub hl [0, 1, 2, 3, 4, 5, 6, 7, 8, 9, 10, 11] rfl)
    · have hf := gIf_f c204 hf
      refine lv_iload hx hb dL_law_559 (lv_at hl 11 rfl) ?_
      refine lv_iload hx hb dL_law_561 (lv_at hl 12 rfl) ?_
      refine lv_iload hx hb dL_law_563 (lv_at hl 8 rfl) ?_
      refine lv_icmp_ne (tgt := 572) hx hb dL_law_565 (by decide) (fun c205 => ?_) (fun c205 => ?_)
      · have hf := gIf_f c205 hf
        refine lv_aload hx hb dL_law_572 (lv_at hl 4 rfl) ?_
        refine lv_iload hx hb dL_law_574 (lv_at hl 10 rfl) ?_
        obtain ⟨h206, hf⟩ := gGd_some hf
        refine h_iald (cx := 304) K hS (eLL_304 G o) (by decide) h206 rfl dL_law_576 ?_
        refine lv_iload hx hb dL_law_577 (lv_at hl 12 rfl) ?_
        refine lv_ishr hx hb dL_law_579 ?_
        refine lv_iconst (v := 1) hx hb dL_law_580 (by decide) ?_
        refine lv_iand hx hb dL_law_581 ?_
        refine lv_iload hx hb dL_law_582 (lv_at hl 12 rfl) ?_
        refine lv_iload hx hb dL_law_584 (lv_at hl 8 rfl) ?_
        refine lv_icmp_ge (tgt := 594) hx hb dL_law_586 (by decide) (fun c207 => ?_) (fun c207 => ?_)
        · have hf := gIf_t c207 hf
          refine lv_iload hx hb dL_law_594 (lv_at hl 12 rfl) ?_
          refine lv_iconst (v := 1) hx hb dL_law_596 (by decide) ?_
          refine lv_isub hx hb dL_law_597 ?_
          refine lv_ishl hx hb dL_law_598 ?_
          refine lv_ior hx hb dL_law_599 ?_
          obtain ⟨x208, hx208, hf⟩ := gLet_some hf
          refine g_top hx208 ?_
          refine lv_istore (lv' := [(15, .int x208), (0, .ref ab), (1, .ref (o + 0)), (2, .ref (o + 302)), (3, .ref (o + 303)), (4, .ref (o + 304)), (5, .ref (o + 305)), (6, .ref (o + 306)), (7, .int w7), (12, .int w12), (13, .int w13), (14, .int w14), (16, .int v16)]) hx hb dL_law_600 hl (by decide) rfl (fun ls hl => ?_)
          refine lv_iinc (v := (v16 + 1)) (lv' := [(16, .int (v16 + 1)), (15, .int x208), (0, .ref ab), (1, .ref (o + 0)), (2, .ref (o + 302)), (3, .ref (o + 303)), (4, .ref (o + 304)), (5, .ref (o + 305)), (6, .ref (o + 306)), (7, .int w7), (12, .int w12), (13, .int w13), (14, .int w14)]) hx hb dL_law_602 hl (k := 12) rfl rfl (by decide) rfl (fun ls hl => ?_)
          refine lv_goto (tgt := 550) hx hb dL_law_605 (by decide) ?_
          exact ih x208 (v16 + 1) σ hf _ _ _ hS (lv_sub hl [2, 3, 4, 5, 6, 7, 8, 9, 10, 11, 12, 1, 0] rfl)
        · have hf := gIf_f c207 hf
          refine lv_iload hx hb dL_law_589 (lv_at hl 12 rfl) ?_
          refine lv_goto (tgt := 598) hx hb dL_law_591 (by decide) ?_
          refine lv_ishl hx hb dL_law_598 ?_
          refine lv_ior hx hb dL_law_599 ?_
          obtain ⟨x209, hx209, hf⟩ := gLet_some hf
          refine g_top hx209 ?_
          refine lv_istore (lv' := [(15, .int x209), (0, .ref ab), (1, .ref (o + 0)), (2, .ref (o + 302)), (3, .ref (o + 303)), (4, .ref (o + 304)), (5, .ref (o + 305)), (6, .ref (o + 306)), (7, .int w7), (12, .int w12), (13, .int w13), (14, .int w14), (16, .int v16)]) hx hb dL_law_600 hl (by decide) rfl (fun ls hl => ?_)
          refine lv_iinc (v := (v16 + 1)) (lv' := [(16, .int (v16 + 1)), (15, .int x209), (0, .ref ab), (1, .ref (o + 0)), (2, .ref (o + 302)), (3, .ref (o + 303)), (4, .ref (o + 304)), (5, .ref (o + 305)), (6, .ref (o + 306)), (7, .int w7), (12, .int w12), (13, .int w13), (14, .int w14)]) hx hb dL_law_602 hl (k := 12) rfl rfl (by decide) rfl (fun ls hl => ?_)
          refine lv_goto (tgt := 550) hx hb dL_law_605 (by decide) ?_
          exact ih x209 (v16 + 1) σ hf _ _ _ hS (lv_sub hl [2, 3, 4, 5, 6, 7, 8, 9, 10, 11, 12, 1, 0] rfl)
      · have hf := gIf_t c205 hf
        refine lv_iconst (v := 0) hx hb dL_law_568 (by decide) ?_
        refine lv_goto (tgt := 599) hx hb dL_law_569 (by decide) ?_
        refine lv_ior hx hb dL_law_599 ?_
        obtain ⟨x210, hx210, hf⟩ := gLet_some hf
        refine g_top hx210 ?_
        refine lv_istore (lv' := [(15, .int x210), (0, .ref ab), (1, .ref (o + 0)), (2, .ref (o + 302)), (3, .ref (o + 303)), (4, .ref (o + 304)), (5, .ref (o + 305)), (6, .ref (o + 306)), (7, .int w7), (12, .int w12), (13, .int w13), (14, .int w14), (16, .int v16)]) hx hb dL_law_600 hl (by decide) rfl (fun ls hl => ?_)
        refine lv_iinc (v := (v16 + 1)) (lv' := [(16, .int (v16 + 1)), (15, .int x210), (0, .ref ab), (1, .ref (o + 0)), (2, .ref (o + 302)), (3, .ref (o + 303)), (4, .ref (o + 304)), (5, .ref (o + 305)), (6, .ref (o + 306)), (7, .int w7), (12, .int w12), (13, .int w13), (14, .int w14)]) hx hb dL_law_602 hl (k := 12) rfl rfl (by decide) rfl (fun ls hl => ?_)
        refine lv_goto (tgt := 550) hx hb dL_law_605 (by decide) ?_
        exact ih x210 (v16 + 1) σ hf _ _ _ hS (lv_sub hl [2, 3, 4, 5, 6, 7, 8, 9, 10, 11, 12, 1, 0] rfl)
set_option maxHeartbeats 4000000 in
set_option maxRecDepth 100000 in
theorem w_L_law_L537 (Lx : Nat) (xs : Nat → Int32) (ab : Nat) (hfr : 10 ≤ R.frames) (hlo : 408 ≤ R.locals) (hcc : cc + 2 ≤ R.cells) (hss : ss + 20 ≤ R.slots) (w7 : Int32) (w12 : Int32) (w13 : Int32) (K621 : gS → Option (gS)) {q : gS} (K : gK p s m args meth c G cL_law 18 RL (some .boolean)) (hK621 : ∀ (σ : gS), K621 σ = some q → ∀ (H : Heap) (locs : List Loc) (ls : Array Slot), hSt G o [(ab, Lx, xs)] s σ H locs → lv_has ls 18 [(0, .ref ab), (1, .ref (o + 0)), (2, .ref (o + 302)), (3, .ref (o + 303)), (4, .ref (o + 304)), (5, .ref (o + 305)), (6, .ref (o + 306)), (7, .int w7), (12, .int w12), (13, .int w13)] → W p l e R s m args below meth c H locs cc ss Q (F0 m 621 ls [])) : ∀ (n : Nat) (v14 : Int32) (σ : gS), f_L_law_L537 Lx xs w7 w12 w13 K621 n v14 σ = some q → ∀ (H : Heap) (locs : List Loc) (ls : Array Slot), hSt G o [(ab, Lx, xs)] s σ H locs → lv_has ls 18 [(0, .ref ab), (1, .ref (o + 0)), (2, .ref (o + 302)), (3, .ref (o + 303)), (4, .ref (o + 304)), (5, .ref (o + 305)), (6, .ref (o + 306)), (7, .int w7), (12, .int w12), (13, .int w13), (14, .int v14)] → W p l e R s m args below meth c H locs cc ss Q (F0 m 537 ls []) := by
  obtain ⟨hx, hb, hml, hown, hts, -⟩ := id K
  intro n
  induction n with
  | zero =>
    intro v14 σ hf
    exact absurd (show (none : Option _) = some q from hf) (by simp)
  | succ n ih =>
    intro v14 σ hf H locs ls hS hl
    rw [f_L_law_L537_s] at hf
    refine lv_iload hx hb dL_law_537 (lv_at hl 10 rfl) ?_
    refine lv_bipush (v := 8) hx hb dL_law_539 (by decide) ?_
    refine lv_icmp_ge (tgt := 621) hx hb dL_law_541 (by decide) (fun c203 => ?_) (fun c203 => ?_)
    · have hf := gIf_t c203 hf
      exact hK621 σ hf _ _ _ hS (lv_sub hl [0, 1, 2, 3, 4, 5, 6, 7, 8, 9] rfl)
    · have hf := gIf_f c203 hf
      refine lv_iconst (v := 0) hx hb dL_law_544 (by decide) ?_
      refine lv_istore (lv' := [(15, .int 0), (0, .ref ab), (1, .ref (o + 0)), (2, .ref (o + 302)), (3, .ref (o + 303)), (4, .ref (o + 304)), (5, .ref (o + 305)), (6, .ref (o + 306)), (7, .int w7), (12, .int w12), (13, .int w13), (14, .int v14)]) hx hb dL_law_545 hl (by decide) rfl (fun ls hl => ?_)
      refine lv_iconst (v := 0) hx hb dL_law_547 (by decide) ?_
      refine lv_istore (lv' := [(16, .int 0), (15, .int 0), (0, .ref ab), (1, .ref (o + 0)), (2, .ref (o + 302)), (3, .ref (o + 303)), (4, .ref (o + 304)), (5, .ref (o + 305)), (6, .ref (o + 306)), (7, .int w7), (12, .int w12), (13, .int w13), (14, .int v14)]) hx hb dL_law_548 hl (by decide) rfl (fun ls hl => ?_)
      refine w_L_law_L550 Lx xs ab hfr hlo hcc hss w7 w12 w13 v14 _ K ?_ gFu 0 0 σ hf _ _ _ hS (lv_sub hl [2, 3, 4, 5, 6, 7, 8, 9, 10, 11, 12, 1, 0] rfl)
      · intro k211 s212 hf H locs ls hS hl
        refine lv_aload hx hb dL_law_608 (lv_at hl 4 rfl) ?_
        refine lv_iload hx hb dL_law_610 (lv_at hl 10 rfl) ?_
        refine lv_iload hx hb dL_law_612 (lv_at hl 11 rfl) ?_
        obtain ⟨h214, hf⟩ := gGd_some hf
        obtain ⟨s213, hs213, hf⟩ := gLet_some hf
        refine h_iast (cx := 304) K hS (eLL_304 G o) (by decide) h214 rfl dL_law_614 (fun H locs hS => ?_)
        rw [← hs213] at hS
        refine lv_iinc (v := (v14 + 1)) (lv' := [(14, .int (v14 + 1)), (0, .ref ab), (1, .ref (o + 0)), (2, .ref (o + 302)), (3, .ref (o + 303)), (4, .ref (o + 304)), (5, .ref (o + 305)), (6, .ref (o + 306)), (7, .int w7), (12, .int w12), (13, .int w13), (15, .int k211)]) hx hb dL_law_615 hl (k := 10) rfl rfl (by decide) rfl (fun ls hl => ?_)
        refine lv_goto (tgt := 537) hx hb dL_law_618 (by decide) ?_
        exact ih (v14 + 1) s213 hf _ _ _ hS (lv_sub hl [1, 2, 3, 4, 5, 6, 7, 8, 9, 10, 0] rfl)
set_option maxHeartbeats 4000000 in
set_option maxRecDepth 100000 in
theorem w_L_body (ab : Nat) (Lx : Nat) (xs : Nat → Int32) (e7 : Int32) (σ : gS) {q : gS} (K : gK p s m args meth c G cL_law 18 RL (some .boolean)) (hfr : 10 ≤ R.frames) (hlo : 408 ≤ R.locals) (hcc : cc + 2 ≤ R.cells) (hss : ss + 20 ≤ R.slots) (hf : f_L_body Lx xs e7 σ = some q) (hK1403 : ∀ (H : Heap) (locs : List Loc) (ls : Array Slot), hSt G o [(ab, Lx, xs)] s q H locs → lv_has ls 18 [(0, .ref ab), (1, .ref (o + 0)), (2, .ref (o + 302)), (3, .ref (o + 303)), (4, .ref (o + 304)), (5, .ref (o + 305)), (6, .ref (o + 306)), (7, .int e7)] → W p l e R s m args below meth c H locs (cc + 1 + 1) (ss + 10 + 10) Q (F0 m 1403 ls [])) : ∀ (H : Heap) (locs : List Loc) (ls : Array Slot), hSt G o [(ab, Lx, xs)] s σ H locs → lv_has ls 18 [(0, .ref ab), (1, .ref (o + 0)), (2, .ref (o + 302)), (3, .ref (o + 303)), (4, .ref (o + 304)), (5, .ref (o + 305)), (6, .ref (o + 306)), (7, .int e7)] → W p l e R s m args below meth c H locs cc ss Q (F0 m 58 ls []) := by
  intro H locs ls hS hl
  obtain ⟨hx, hb, hml, hown, hts, -⟩ := id K
  unfold f_L_body at hf
  refine lv_aload_n hx hb dL_law_58 rfl (lv_at hl 0 rfl) ?_
  refine lv_iload hx hb dL_law_59 (lv_at hl 7 rfl) ?_
  obtain ⟨q1, hq1, hf⟩ := Option.bind_eq_some_iff.mp hf
  refine h_Si0 (X' := [(ab, Lx, xs)]) (As := [.ref ab, .int e7]) K hS lS_L_114 (by simp) (c_L_cell Lx xs ab e7 σ q1 hq1) rfl rfl (Nat.le_of_ble_eq_true rfl) ⟨rfl, rfl⟩ ⟨Nat.le_trans (Nat.le_of_ble_eq_true rfl) hfr, Nat.le_trans (Nat.le_of_ble_eq_true rfl) hlo⟩ hl.1 ⟨by omega, by omega⟩ dL_law_61 (fun H locs hS => ?_)
  refine lv_istore (lv' := [(8, .int q1.1), (0, .ref ab), (1, .ref (o + 0)), (2, .ref (o + 302)), (3, .ref (o + 303)), (4, .ref (o + 304)), (5, .ref (o + 305)), (6, .ref (o + 306)), (7, .int e7)]) hx hb dL_law_64 hl (by decide) rfl (fun ls hl => ?_)
  refine lv_iload hx hb dL_law_66 (lv_at hl 0 rfl) ?_
  refine lv_bipush (v := 20) hx hb dL_law_68 (by decide) ?_
  obtain ⟨q2, hq2, hf⟩ := Option.bind_eq_some_iff.mp hf
  refine h_Si0 (X' := []) (As := [.int q1.1, .int 20]) K hS lS_L_117 (by simp) (c_L_low q1.1 20 q1.2 q2 hq2) rfl rfl (Nat.le_of_ble_eq_true rfl) ⟨rfl, rfl⟩ ⟨Nat.le_trans (Nat.le_of_ble_eq_true rfl) hfr, Nat.le_trans (Nat.le_of_ble_eq_true rfl) hlo⟩ hl.1 ⟨by omega, by omega⟩ dL_law_70 (fun H locs hS => ?_)
  refine lv_istore (lv' := [(9, .int q2.1), (8, .int q1.1), (0, .ref ab), (1, .ref (o + 0)), (2, .ref (o + 302)), (3, .ref (o + 303)), (4, .ref (o + 304)), (5, .ref (o + 305)), (6, .ref (o + 306)), (7, .int e7)]) hx hb dL_law_73 hl (by decide) rfl (fun ls hl => ?_)
  refine lv_iload hx hb dL_law_75 (lv_at hl 1 rfl) ?_
  refine lv_iconst (v := 5) hx hb dL_law_77 (by decide) ?_
  refine lv_ishr hx hb dL_law_78 ?_
  refine lv_iconst (v := 4) hx hb dL_law_79 (by decide) ?_
  obtain ⟨q3, hq3, hf⟩ := Option.bind_eq_some_iff.mp hf
  refine h_Si0 (X' := []) (As := [.int (q1.1 >>> (5 &&& 31)), .int 4]) K hS lS_L_117 (by simp) (c_L_low (q1.1 >>> (5 &&& 31)) 4 q2.2 q3 hq3) rfl rfl (Nat.le_of_ble_eq_true rfl) ⟨rfl, rfl⟩ ⟨Nat.le_trans (Nat.le_of_ble_eq_true rfl) hfr, Nat.le_trans (Nat.le_of_ble_eq_true rfl) hlo⟩ hl.1 ⟨by omega, by omega⟩ dL_law_80 (fun H locs hS => ?_)
  refine lv_istore (lv' := [(10, .int q3.1), (9, .int q2.1), (8, .int q1.1), (0, .ref ab), (1, .ref (o + 0)), (2, .ref (o + 302)), (3, .ref (o + 303)), (4, .ref (o + 304)), (5, .ref (o + 305)), (6, .ref (o + 306)), (7, .int e7)]) hx hb dL_law_83 hl (by decide) rfl (fun ls hl => ?_)
  refine lv_iconst (v := 1) hx hb dL_law_85 (by decide) ?_
  refine lv_istore (lv' := [(11, .int 1), (10, .int q3.1), (9, .int q2.1), (8, .int q1.1), (0, .ref ab), (1, .ref (o + 0)), (2, .ref (o + 302)), (3, .ref (o + 303)), (4, .ref (o + 304)), (5, .ref (o + 305)), (6, .ref (o + 306)), (7, .int e7)]) hx hb dL_law_86 hl (by decide) rfl (fun ls hl => ?_)
  refine lv_iload hx hb dL_law_88 (lv_at hl 2 rfl) ?_
  refine lv_iconst (v := 5) hx hb dL_law_90 (by decide) ?_
  obtain ⟨J6, hJ6, hf⟩ := gLet_some hf
  have wJ6 : ∀ (j4 : Int32) (s5 : gS), J6 j4 s5 = some q → ∀ (H : Heap) (locs : List Loc) (ls : Array Slot), hSt G o [(ab, Lx, xs)] s s5 H locs → lv_has ls 18 [(0, .ref ab), (1, .ref (o + 0)), (2, .ref (o + 302)), (3, .ref (o + 303)), (4, .ref (o + 304)), (5, .ref (o + 305)), (6, .ref (o + 306)), (7, .int e7), (11, .int j4)] → W p l e R s m args below meth c H locs (cc + 1) (ss + 10) Q (F0 m 1248 ls []) := by
    intro j4 s5 hf H locs ls hS hl
    rw [hJ6] at hf
    refine lv_aload_n hx hb dL_law_1248 rfl (lv_at hl 0 rfl) ?_
    refine lv_bipush (v := 60) hx hb dL_law_1249 (by decide) ?_
    refine lv_iload hx hb dL_law_1251 (lv_at hl 7 rfl) ?_
    refine lv_iadd hx hb dL_law_1253 ?_
    obtain ⟨q7, hq7, hf⟩ := Option.bind_eq_some_iff.mp hf
    refine h_Si0 (X' := [(ab, Lx, xs)]) (As := [.ref ab, .int (60 + e7)]) K hS lS_L_114 (by simp) (c_L_cell Lx xs ab (60 + e7) s5 q7 hq7) rfl rfl (Nat.le_of_ble_eq_true rfl) ⟨rfl, rfl⟩ ⟨Nat.le_trans (Nat.le_of_ble_eq_true rfl) hfr, Nat.le_trans (Nat.le_of_ble_eq_true rfl) hlo⟩ hl.1 ⟨by omega, by omega⟩ dL_law_1254 (fun H locs hS => ?_)
    refine lv_istore (lv' := [(12, .int q7.1), (0, .ref ab), (1, .ref (o + 0)), (2, .ref (o + 302)), (3, .ref (o + 303)), (4, .ref (o + 304)), (5, .ref (o + 305)), (6, .ref (o + 306)), (7, .int e7), (11, .int j4)]) hx hb dL_law_1257 hl (by decide) rfl (fun ls hl => ?_)
    refine lv_iload hx hb dL_law_1259 (lv_at hl 9 rfl) ?_
    refine lv_if_eq (tgt := 1401) hx hb dL_law_1261 (by decide) (fun c8 => ?_) (fun c8 => ?_)
    · have hf := gIf_t c8 hf
      exact absurd (show (none : Option gS) = some q from hf) (by simp)
    · have hf := gIf_f c8 hf
      refine lv_aload_n hx hb dL_law_1264 rfl (lv_at hl 2 rfl) ?_
      refine lv_aload_n hx hb dL_law_1265 rfl (lv_at hl 3 rfl) ?_
      refine lv_aload_n hx hb dL_law_1266 rfl (lv_at hl 4 rfl) ?_
      refine lv_aload hx hb dL_law_1267 (lv_at hl 5 rfl) ?_
      refine lv_aload hx hb dL_law_1269 (lv_at hl 6 rfl) ?_
      refine lv_aload hx hb dL_law_1271 (lv_at hl 7 rfl) ?_
      obtain ⟨q9, hq9, hf⟩ := Option.bind_eq_some_iff.mp hf
      refine h_Si0 (X' := []) (As := [.ref (o + 0), .ref (o + 302), .ref (o + 303), .ref (o + 304), .ref (o + 305), .ref (o + 306)]) K hS lS_L_147 (by simp) (c_L_tells q7.2 q9 hq9) rfl rfl (Nat.le_of_ble_eq_true rfl) ⟨rfl, rfl⟩ ⟨Nat.le_trans (Nat.le_of_ble_eq_true rfl) hfr, Nat.le_trans (Nat.le_of_ble_eq_true rfl) hlo⟩ hl.1 ⟨by omega, by omega⟩ dL_law_1273 (fun H locs hS => ?_)
      refine lv_if_eq (tgt := 1401) hx hb dL_law_1276 (by decide) (fun c10 => ?_) (fun c10 => ?_)
      · have hf := gIf_t c10 hf
        exact absurd (show (none : Option gS) = some q from hf) (by simp)
      · have hf := gIf_f c10 hf
        refine lv_aload_n hx hb dL_law_1279 rfl (lv_at hl 2 rfl) ?_
        refine lv_aload_n hx hb dL_law_1280 rfl (lv_at hl 3 rfl) ?_
        refine lv_aload hx hb dL_law_1281 (lv_at hl 5 rfl) ?_
        refine lv_aload hx hb dL_law_1283 (lv_at hl 7 rfl) ?_
        refine lv_iload hx hb dL_law_1285 (lv_at hl 0 rfl) ?_
        refine lv_iconst (v := 4) hx hb dL_law_1287 (by decide) ?_
        obtain ⟨q11, hq11, hf⟩ := Option.bind_eq_some_iff.mp hf
        refine h_Si0 (X' := []) (As := [.int q7.1, .int 4]) K hS lS_L_117 (by simp) (c_L_low q7.1 4 q9.2 q11 hq11) rfl rfl (Nat.le_of_ble_eq_true rfl) ⟨rfl, rfl⟩ ⟨Nat.le_trans (Nat.le_of_ble_eq_true rfl) hfr, Nat.le_trans (Nat.le_of_ble_eq_true rfl) hlo⟩ hl.1 ⟨by omega, by omega⟩ dL_law_1288 (fun H locs hS => ?_)
        obtain ⟨q12, hq12, hf⟩ := Option.bind_eq_some_iff.mp hf
        refine h_Si0 (X' := []) (As := [.ref (o + 0), .ref (o + 302), .ref (o + 304), .ref (o + 306), .int q11.1]) K hS lS_L_150 (by simp) (c_L_trail q11.1 q11.2 q12 hq12) rfl rfl (Nat.le_of_ble_eq_true rfl) ⟨rfl, rfl⟩ ⟨Nat.le_trans (Nat.le_of_ble_eq_true rfl) hfr, Nat.le_trans (Nat.le_of_ble_eq_true rfl) hlo⟩ hl.1 ⟨by omega, by omega⟩ dL_law_1291 (fun H locs hS => ?_)
        refine lv_if_eq (tgt := 1401) hx hb dL_law_1294 (by decide) (fun c13 => ?_) (fun c13 => ?_)
        · have hf := gIf_t c13 hf
          exact absurd (show (none : Option gS) = some q from hf) (by simp)
        · have hf := gIf_f c13 hf
          refine lv_aload_n hx hb dL_law_1297 rfl (lv_at hl 2 rfl) ?_
          refine lv_aload_n hx hb dL_law_1298 rfl (lv_at hl 3 rfl) ?_
          refine lv_aload hx hb dL_law_1299 (lv_at hl 5 rfl) ?_
          refine lv_aload hx hb dL_law_1301 (lv_at hl 6 rfl) ?_
          refine lv_aload hx hb dL_law_1303 (lv_at hl 7 rfl) ?_
          refine lv_iload hx hb dL_law_1305 (lv_at hl 0 rfl) ?_
          refine lv_iconst (v := 2) hx hb dL_law_1307 (by decide) ?_
          refine lv_ishr hx hb dL_law_1308 ?_
          refine lv_iconst (v := 4) hx hb dL_law_1309 (by decide) ?_
          obtain ⟨q14, hq14, hf⟩ := Option.bind_eq_some_iff.mp hf
          refine h_Si0 (X' := []) (As := [.int (q7.1 >>> (2 &&& 31)), .int 4]) K hS lS_L_117 (by simp) (c_L_low (q7.1 >>> (2 &&& 31)) 4 q12.2 q14 hq14) rfl rfl (Nat.le_of_ble_eq_true rfl) ⟨rfl, rfl⟩ ⟨Nat.le_trans (Nat.le_of_ble_eq_true rfl) hfr, Nat.le_trans (Nat.le_of_ble_eq_true rfl) hlo⟩ hl.1 ⟨by omega, by omega⟩ dL_law_1310 (fun H locs hS => ?_)
          refine lv_iload hx hb dL_law_1313 (lv_at hl 0 rfl) ?_
          refine lv_iconst (v := 4) hx hb dL_law_1315 (by decide) ?_
          refine lv_ishr hx hb dL_law_1316 ?_
          refine lv_bipush (v := 10) hx hb dL_law_1317 (by decide) ?_
          obtain ⟨q15, hq15, hf⟩ := Option.bind_eq_some_iff.mp hf
          refine h_Si0 (X' := []) (As := [.int (q7.1 >>> (4 &&& 31)), .int 10]) K hS lS_L_117 (by simp) (c_L_low (q7.1 >>> (4 &&& 31)) 10 q14.2 q15 hq15) rfl rfl (Nat.le_of_ble_eq_true rfl) ⟨rfl, rfl⟩ ⟨Nat.le_trans (Nat.le_of_ble_eq_true rfl) hfr, Nat.le_trans (Nat.le_of_ble_eq_true rfl) hlo⟩ hl.1 ⟨by omega, by omega⟩ dL_law_1319 (fun H locs hS => ?_)
          obtain ⟨q16, hq16, hf⟩ := Option.bind_eq_some_iff.mp hf
          refine h_Si (X' := []) (mc := 1) (ms := 10) (As := [.ref (o + 0), .ref (o + 302), .ref (o + 304), .ref (o + 305), .ref (o + 306), .int q14.1, .int q15.1]) K hS lS_L_153 (by simp) (c_L_ways q14.1 q15.1 q15.2 q16 hq16) rfl rfl (Nat.le_of_ble_eq_true rfl) ⟨rfl, rfl⟩ ⟨Nat.le_trans (Nat.le_of_ble_eq_true rfl) hfr, Nat.le_trans (Nat.le_of_ble_eq_true rfl) hlo⟩ hl.1 ⟨by omega, by omega⟩ dL_law_1322 (fun H locs hS => ?_)
          refine lv_if_eq (tgt := 1401) hx hb dL_law_1325 (by decide) (fun c17 => ?_) (fun c17 => ?_)
          · have hf := gIf_t c17 hf
            exact absurd (show (none : Option gS) = some q from hf) (by simp)
          · have hf := gIf_f c17 hf
            refine lv_aload_n hx hb dL_law_1328 rfl (lv_at hl 2 rfl) ?_
            refine lv_iload hx hb dL_law_1329 (lv_at hl 0 rfl) ?_
            refine lv_bipush (v := 8) hx hb dL_law_1331 (by decide) ?_
            refine lv_ishr hx hb dL_law_1333 ?_
            refine lv_bipush (v := 10) hx hb dL_law_1334 (by decide) ?_
            obtain ⟨q18, hq18, hf⟩ := Option.bind_eq_some_iff.mp hf
            refine h_Si0 (X' := []) (As := [.int (q7.1 >>> (8 &&& 31)), .int 10]) K hS lS_L_117 (by simp) (c_L_low (q7.1 >>> (8 &&& 31)) 10 q16.2 q18 hq18) rfl rfl (Nat.le_of_ble_eq_true rfl) ⟨rfl, rfl⟩ ⟨Nat.le_trans (Nat.le_of_ble_eq_true rfl) hfr, Nat.le_trans (Nat.le_of_ble_eq_true rfl) hlo⟩ hl.1 ⟨by omega, by omega⟩ dL_law_1336 (fun H locs hS => ?_)
            refine lv_iload hx hb dL_law_1339 (lv_at hl 0 rfl) ?_
            refine lv_bipush (v := 12) hx hb dL_law_1341 (by decide) ?_
            refine lv_ishr hx hb dL_law_1343 ?_
            refine lv_bipush (v := 10) hx hb dL_law_1344 (by decide) ?_
            obtain ⟨q19, hq19, hf⟩ := Option.bind_eq_some_iff.mp hf
            refine h_Si0 (X' := []) (As := [.int (q7.1 >>> (12 &&& 31)), .int 10]) K hS lS_L_117 (by simp) (c_L_low (q7.1 >>> (12 &&& 31)) 10 q18.2 q19 hq19) rfl rfl (Nat.le_of_ble_eq_true rfl) ⟨rfl, rfl⟩ ⟨Nat.le_trans (Nat.le_of_ble_eq_true rfl) hfr, Nat.le_trans (Nat.le_of_ble_eq_true rfl) hlo⟩ hl.1 ⟨by omega, by omega⟩ dL_law_1346 (fun H locs hS => ?_)
            obtain ⟨q20, hq20, hf⟩ := Option.bind_eq_some_iff.mp hf
            obtain ⟨s21, hs21, hf⟩ := gLet_some hf
            refine h_Vi (As := [.int q18.1, .int q19.1]) K hS lV_L_157 (c_X10_far q18.1 q19.1 q19.2 q20 hq20) rfl rfl (Nat.le_of_ble_eq_true rfl) ⟨⟨Nat.le_trans (Nat.le_of_ble_eq_true rfl) hfr, Nat.le_trans (Nat.le_of_ble_eq_true rfl) hlo⟩, rfl, rfl⟩ hl.1 ⟨by omega, by omega⟩ dL_law_1349 (fun H locs hS => ?_)
            rw [← hs21] at hS
            refine lv_aload_n hx hb dL_law_1352 rfl (lv_at hl 3 rfl) ?_
            refine lv_aload hx hb dL_law_1353 (lv_at hl 7 rfl) ?_
            refine lv_iload hx hb dL_law_1355 (lv_at hl 0 rfl) ?_
            refine lv_bipush (v := 8) hx hb dL_law_1357 (by decide) ?_
            refine lv_ishr hx hb dL_law_1359 ?_
            refine lv_bipush (v := 10) hx hb dL_law_1360 (by decide) ?_
            obtain ⟨q22, hq22, hf⟩ := Option.bind_eq_some_iff.mp hf
            refine h_Si0 (X' := []) (As := [.int (q7.1 >>> (8 &&& 31)), .int 10]) K hS lS_L_117 (by simp) (c_L_low (q7.1 >>> (8 &&& 31)) 10 s21 q22 hq22) rfl rfl (Nat.le_of_ble_eq_true rfl) ⟨rfl, rfl⟩ ⟨Nat.le_trans (Nat.le_of_ble_eq_true rfl) hfr, Nat.le_trans (Nat.le_of_ble_eq_true rfl) hlo⟩ hl.1 ⟨by omega, by omega⟩ dL_law_1362 (fun H locs hS => ?_)
            refine lv_iload hx hb dL_law_1365 (lv_at hl 0 rfl) ?_
            refine lv_bipush (v := 12) hx hb dL_law_1367 (by decide) ?_
            refine lv_ishr hx hb dL_law_1369 ?_
            refine lv_bipush (v := 10) hx hb dL_law_1370 (by decide) ?_
            obtain ⟨q23, hq23, hf⟩ := Option.bind_eq_some_iff.mp hf
            refine h_Si0 (X' := []) (As := [.int (q7.1 >>> (12 &&& 31)), .int 10]) K hS lS_L_117 (by simp) (c_L_low (q7.1 >>> (12 &&& 31)) 10 q22.2 q23 hq23) rfl rfl (Nat.le_of_ble_eq_true rfl) ⟨rfl, rfl⟩ ⟨Nat.le_trans (Nat.le_of_ble_eq_true rfl) hfr, Nat.le_trans (Nat.le_of_ble_eq_true rfl) hlo⟩ hl.1 ⟨by omega, by omega⟩ dL_law_1372 (fun H locs hS => ?_)
            obtain ⟨q24, hq24, hf⟩ := Option.bind_eq_some_iff.mp hf
            refine h_Si0 (X' := []) (As := [.ref (o + 302), .ref (o + 306), .int q22.1, .int q23.1]) K hS lS_L_29 (by simp) (c_L_far q22.1 q23.1 q23.2 q24 hq24) rfl rfl (Nat.le_of_ble_eq_true rfl) ⟨rfl, rfl⟩ ⟨Nat.le_trans (Nat.le_of_ble_eq_true rfl) hfr, Nat.le_trans (Nat.le_of_ble_eq_true rfl) hlo⟩ hl.1 ⟨by omega, by omega⟩ dL_law_1375 (fun H locs hS => ?_)
            refine lv_icmp_ne (tgt := 1401) hx hb dL_law_1378 (by decide) (fun c25 => ?_) (fun c25 => ?_)
            · have hf := gIf_f c25 hf
              exact absurd (show (none : Option gS) = some q from hf) (by simp)
            · have hf := gIf_t c25 hf
              refine lv_iload hx hb dL_law_1381 (lv_at hl 8 rfl) ?_
              refine lv_bipush (v := 10) hx hb dL_law_1383 (by decide) ?_
              refine lv_irem hx hb dL_law_1385 (by decide) ?_
              refine lv_bipush (v := 9) hx hb dL_law_1386 (by decide) ?_
              refine lv_icmp_ne (tgt := 1403) hx hb dL_law_1388 (by decide) (fun c26 => ?_) (fun c26 => ?_)
              · have hf := gIf_f c26 hf
                have hq := Option.some.inj hf
                subst hq
                exact hK1403 _ _ _ hS (lv_sub hl [1, 2, 3, 4, 5, 6, 7, 8] rfl)
              · have hf := gIf_t c26 hf
                refine lv_aload_n hx hb dL_law_1391 rfl (lv_at hl 2 rfl) ?_
                refine lv_aload_n hx hb dL_law_1392 rfl (lv_at hl 3 rfl) ?_
                refine lv_aload hx hb dL_law_1393 (lv_at hl 7 rfl) ?_
                obtain ⟨q27, hq27, hf⟩ := Option.bind_eq_some_iff.mp hf
                refine h_Si0 (X' := []) (As := [.ref (o + 0), .ref (o + 302), .ref (o + 306)]) K hS lS_L_159 (by simp) (c_L_gap q24.2 q27 hq27) rfl rfl (Nat.le_of_ble_eq_true rfl) ⟨rfl, rfl⟩ ⟨Nat.le_trans (Nat.le_of_ble_eq_true rfl) hfr, Nat.le_trans (Nat.le_of_ble_eq_true rfl) hlo⟩ hl.1 ⟨by omega, by omega⟩ dL_law_1395 (fun H locs hS => ?_)
                refine lv_if_ne (tgt := 1403) hx hb dL_law_1398 (by decide) (fun c28 => ?_) (fun c28 => ?_)
                · have hf := gIf_f c28 hf
                  have hq := Option.some.inj hf
                  subst hq
                  exact hK1403 _ _ _ hS (lv_sub hl [1, 2, 3, 4, 5, 6, 7, 8] rfl)
                · have hf := gIf_t c28 hf
                  exact absurd (show (none : Option gS) = some q from hf) (by simp)
  clear hJ6
  obtain ⟨J30, hJ30, hf⟩ := gLet_some hf
  have wJ30 : ∀  (s29 : gS), J30  s29 = some q → ∀ (H : Heap) (locs : List Loc) (ls : Array Slot), hSt G o [(ab, Lx, xs)] s s29 H locs → lv_has ls 18 [(0, .ref ab), (1, .ref (o + 0)), (2, .ref (o + 302)), (3, .ref (o + 303)), (4, .ref (o + 304)), (5, .ref (o + 305)), (6, .ref (o + 306)), (7, .int e7), (8, .int q1.1), (9, .int q2.1), (10, .int q3.1)] → W p l e R s m args below meth c H locs cc ss Q (F0 m 332 ls []) := by
    intro  s29 hf H locs ls hS hl
    rw [hJ30] at hf
    refine lv_iload hx hb dL_law_332 (lv_at hl 9 rfl) ?_
    refine lv_iconst (v := 5) hx hb dL_law_334 (by decide) ?_
    obtain ⟨J32, hJ32, hf⟩ := gLet_some hf
    have wJ32 : ∀  (s31 : gS), J32  s31 = some q → ∀ (H : Heap) (locs : List Loc) (ls : Array Slot), hSt G o [(ab, Lx, xs)] s s31 H locs → lv_has ls 18 [(0, .ref ab), (1, .ref (o + 0)), (2, .ref (o + 302)), (3, .ref (o + 303)), (4, .ref (o + 304)), (5, .ref (o + 305)), (6, .ref (o + 306)), (7, .int e7), (8, .int q1.1), (9, .int q2.1), (10, .int q3.1)] → W p l e R s m args below meth c H locs cc ss Q (F0 m 443 ls []) := by
      intro  s31 hf H locs ls hS hl
      rw [hJ32] at hf
      refine lv_iload hx hb dL_law_443 (lv_at hl 9 rfl) ?_
      refine lv_bipush (v := 6) hx hb dL_law_445 (by decide) ?_
      refine lv_icmp_ne (tgt := 653) hx hb dL_law_447 (by decide) (fun c33 => ?_) (fun c33 => ?_)
      · have hf := gIf_f c33 hf
        refine lv_iload hx hb dL_law_653 (lv_at hl 9 rfl) ?_
        refine lv_bipush (v := 7) hx hb dL_law_655 (by decide) ?_
        refine lv_icmp_ne (tgt := 772) hx hb dL_law_657 (by decide) (fun c34 => ?_) (fun c34 => ?_)
        · have hf := gIf_f c34 hf
          refine lv_iload hx hb dL_law_772 (lv_at hl 9 rfl) ?_
          refine lv_bipush (v := 8) hx hb dL_law_774 (by decide) ?_
          refine lv_icmp_ne (tgt := 824) hx hb dL_law_776 (by decide) (fun c35 => ?_) (fun c35 => ?_)
          · have hf := gIf_f c35 hf
            refine lv_iload hx hb dL_law_824 (lv_at hl 9 rfl) ?_
            refine lv_bipush (v := 15) hx hb dL_law_826 (by decide) ?_
            refine lv_icmp_ge (tgt := 1000) hx hb dL_law_828 (by decide) (fun c36 => ?_) (fun c36 => ?_)
            · have hf := gIf_t c36 hf
              refine lv_iload hx hb dL_law_1000 (lv_at hl 9 rfl) ?_
              refine lv_bipush (v := 17) hx hb dL_law_1002 (by decide) ?_
              refine lv_icmp_ge (tgt := 1185) hx hb dL_law_1004 (by decide) (fun c37 => ?_) (fun c37 => ?_)
              · have hf := gIf_t c37 hf
                refine lv_iconst (v := 1) hx hb dL_law_1185 (by decide) ?_
                refine lv_iload hx hb dL_law_1186 (lv_at hl 8 rfl) ?_
                refine lv_bipush (v := 7) hx hb dL_law_1188 (by decide) ?_
                refine lv_ishr hx hb dL_law_1190 ?_
                refine lv_iload hx hb dL_law_1191 (lv_at hl 8 rfl) ?_
                refine lv_bipush (v := 25) hx hb dL_law_1193 (by decide) ?_
                refine lv_ishr hx hb dL_law_1195 ?_
                refine lv_iconst (v := 3) hx hb dL_law_1196 (by decide) ?_
                obtain ⟨q38, hq38, hf⟩ := Option.bind_eq_some_iff.mp hf
                refine h_Si0 (X' := []) (As := [.int (q1.1 >>> (25 &&& 31)), .int 3]) K hS lS_L_117 (by simp) (c_L_low (q1.1 >>> (25 &&& 31)) 3 s31 q38 hq38) rfl rfl (Nat.le_of_ble_eq_true rfl) ⟨rfl, rfl⟩ ⟨Nat.le_trans (Nat.le_of_ble_eq_true rfl) hfr, Nat.le_trans (Nat.le_of_ble_eq_true rfl) hlo⟩ hl.1 ⟨by omega, by omega⟩ dL_law_1197 (fun H locs hS => ?_)
                obtain ⟨J43, hJ43, hf⟩ := gLet_some hf
                have wJ43 : ∀ (j39 : Int32) (j40 : Int32) (j41 : Int32) (s42 : gS), J43 j39 j40 j41 s42 = some q → ∀ (H : Heap) (locs : List Loc) (ls : Array Slot), hSt G o [(ab, Lx, xs)] s s42 H locs → lv_has ls 18 [(0, .ref ab), (1, .ref (o + 0)), (2, .ref (o + 302)), (3, .ref (o + 303)), (4, .ref (o + 304)), (5, .ref (o + 305)), (6, .ref (o + 306)), (7, .int e7)] → W p l e R s m args below meth c H locs cc ss Q (F0 m 1211 ls [.int j41, .int j40, .int j39]) := by
                  intro j39 j40 j41 s42 hf H locs ls hS hl
                  rw [hJ43] at hf
                  obtain ⟨q44, hq44, hf⟩ := Option.bind_eq_some_iff.mp hf
                  refine h_Si0 (X' := []) (As := [.int j40, .int j41]) K hS lS_L_117 (by simp) (c_L_low j40 j41 s42 q44 hq44) rfl rfl (Nat.le_of_ble_eq_true rfl) ⟨rfl, rfl⟩ ⟨Nat.le_trans (Nat.le_of_ble_eq_true rfl) hfr, Nat.le_trans (Nat.le_of_ble_eq_true rfl) hlo⟩ hl.1 ⟨by omega, by omega⟩ dL_law_1211 (fun H locs hS => ?_)
                  refine lv_iadd hx hb dL_law_1214 ?_
                  obtain ⟨x45, hx45, hf⟩ := gLet_some hf
                  refine g_top hx45 ?_
                  refine lv_istore (lv' := [(12, .int x45), (0, .ref ab), (1, .ref (o + 0)), (2, .ref (o + 302)), (3, .ref (o + 303)), (4, .ref (o + 304)), (5, .ref (o + 305)), (6, .ref (o + 306)), (7, .int e7)]) hx hb dL_law_1215 hl (by decide) rfl (fun ls hl => ?_)
                  refine lv_aload hx hb dL_law_1217 (lv_at hl 5 rfl) ?_
                  refine lv_aload hx hb dL_law_1219 (lv_at hl 6 rfl) ?_
                  refine lv_aload hx hb dL_law_1221 (lv_at hl 7 rfl) ?_
                  refine lv_iload hx hb dL_law_1223 (lv_at hl 0 rfl) ?_
                  obtain ⟨q46, hq46, hf⟩ := Option.bind_eq_some_iff.mp hf
                  refine h_Si0 (X' := []) (As := [.ref (o + 304), .ref (o + 305), .ref (o + 306), .int x45]) K hS lS_L_51 (by simp) (c_L_pass x45 q44.2 q46 hq46) rfl rfl (Nat.le_of_ble_eq_true rfl) ⟨rfl, rfl⟩ ⟨Nat.le_trans (Nat.le_of_ble_eq_true rfl) hfr, Nat.le_trans (Nat.le_of_ble_eq_true rfl) hlo⟩ hl.1 ⟨by omega, by omega⟩ dL_law_1225 (fun H locs hS => ?_)
                  refine lv_istore (lv' := [(13, .int q46.1), (12, .int x45), (0, .ref ab), (1, .ref (o + 0)), (2, .ref (o + 302)), (3, .ref (o + 303)), (4, .ref (o + 304)), (5, .ref (o + 305)), (6, .ref (o + 306)), (7, .int e7)]) hx hb dL_law_1228 hl (by decide) rfl (fun ls hl => ?_)
                  refine lv_aload_n hx hb dL_law_1230 rfl (lv_at hl 3 rfl) ?_
                  refine lv_iload hx hb dL_law_1231 (lv_at hl 1 rfl) ?_
                  obtain ⟨q47, hq47, hf⟩ := Option.bind_eq_some_iff.mp hf
                  obtain ⟨s48, hs48, hf⟩ := gLet_some hf
                  refine h_Vi (As := [.int x45]) K hS lV_L_145 (c_X10_pass x45 q46.2 q47 hq47) rfl rfl (Nat.le_of_ble_eq_true rfl) ⟨⟨Nat.le_trans (Nat.le_of_ble_eq_true rfl) hfr, Nat.le_trans (Nat.le_of_ble_eq_true rfl) hlo⟩, rfl, rfl⟩ hl.1 ⟨by omega, by omega⟩ dL_law_1233 (fun H locs hS => ?_)
                  rw [← hs48] at hS
                  refine lv_iload hx hb dL_law_1236 (lv_at hl 0 rfl) ?_
                  obtain ⟨J51, hJ51, hf⟩ := gLet_some hf
                  have wJ51 : ∀ (j49 : Int32) (s50 : gS), J51 j49 s50 = some q → ∀ (H : Heap) (locs : List Loc) (ls : Array Slot), hSt G o [(ab, Lx, xs)] s s50 H locs → lv_has ls 18 [(0, .ref ab), (1, .ref (o + 0)), (2, .ref (o + 302)), (3, .ref (o + 303)), (4, .ref (o + 304)), (5, .ref (o + 305)), (6, .ref (o + 306)), (7, .int e7)] → W p l e R s m args below meth c H locs cc ss Q (F0 m 1246 ls [.int j49]) := by
                    intro j49 s50 hf H locs ls hS hl
                    rw [hJ51] at hf
                    refine lv_istore (lv' := [(11, .int j49), (0, .ref ab), (1, .ref (o + 0)), (2, .ref (o + 302)), (3, .ref (o + 303)), (4, .ref (o + 304)), (5, .ref (o + 305)), (6, .ref (o + 306)), (7, .int e7)]) hx hb dL_law_1246 hl (by decide) rfl (fun ls hl => ?_)
                    refine W.widen (k := (cc + 1)) (n := (ss + 10)) (by omega) (by omega) ?_
                    exact wJ6 j49 s50 hf _ _ _ hS (lv_sub hl [1, 2, 3, 4, 5, 6, 7, 8, 0] rfl)
                  clear hJ51
                  refine lv_icmp_ne (tgt := 1245) hx hb dL_law_1238 (by decide) (fun c52 => ?_) (fun c52 => ?_)
                  · have hf := gIf_f c52 hf
                    refine lv_iconst (v := 0) hx hb dL_law_1245 (by decide) ?_
                    exact wJ51 0 s48 hf _ _ _ hS (lv_sub hl [2, 3, 4, 5, 6, 7, 8, 9] rfl)
                  · have hf := gIf_t c52 hf
                    refine lv_iconst (v := 1) hx hb dL_law_1241 (by decide) ?_
                    refine lv_goto (tgt := 1246) hx hb dL_law_1242 (by decide) ?_
                    exact wJ51 1 s48 hf _ _ _ hS (lv_sub hl [2, 3, 4, 5, 6, 7, 8, 9] rfl)
                clear hJ43
                refine lv_if_ne (tgt := 1209) hx hb dL_law_1200 (by decide) (fun c53 => ?_) (fun c53 => ?_)
                · have hf := gIf_f c53 hf
                  refine lv_bipush (v := 20) hx hb dL_law_1209 (by decide) ?_
                  exact wJ43 1 (q1.1 >>> (7 &&& 31)) 20 q38.2 hf _ _ _ hS (lv_sub hl [0, 1, 2, 3, 4, 5, 6, 7] rfl)
                · have hf := gIf_t c53 hf
                  refine lv_sipush (v := 200) hx hb dL_law_1203 (by decide) ?_
                  refine lv_goto (tgt := 1211) hx hb dL_law_1206 (by decide) ?_
                  exact wJ43 1 (q1.1 >>> (7 &&& 31)) 200 q38.2 hf _ _ _ hS (lv_sub hl [0, 1, 2, 3, 4, 5, 6, 7] rfl)
              · have hf := gIf_f c37 hf
                refine lv_iload hx hb dL_law_1007 (lv_at hl 8 rfl) ?_
                refine lv_bipush (v := 7) hx hb dL_law_1009 (by decide) ?_
                refine lv_ishr hx hb dL_law_1011 ?_
                refine lv_bipush (v := 10) hx hb dL_law_1012 (by decide) ?_
                obtain ⟨q54, hq54, hf⟩ := Option.bind_eq_some_iff.mp hf
                refine h_Si0 (X' := []) (As := [.int (q1.1 >>> (7 &&& 31)), .int 10]) K hS lS_L_117 (by simp) (c_L_low (q1.1 >>> (7 &&& 31)) 10 s31 q54 hq54) rfl rfl (Nat.le_of_ble_eq_true rfl) ⟨rfl, rfl⟩ ⟨Nat.le_trans (Nat.le_of_ble_eq_true rfl) hfr, Nat.le_trans (Nat.le_of_ble_eq_true rfl) hlo⟩ hl.1 ⟨by omega, by omega⟩ dL_law_1014 (fun H locs hS => ?_)
                refine lv_istore (lv' := [(12, .int q54.1), (0, .ref ab), (1, .ref (o + 0)), (2, .ref (o + 302)), (3, .ref (o + 303)), (4, .ref (o + 304)), (5, .ref (o + 305)), (6, .ref (o + 306)), (7, .int e7), (8, .int q1.1), (9, .int q2.1), (10, .int q3.1)]) hx hb dL_law_1017 hl (by decide) rfl (fun ls hl => ?_)
                refine lv_aload_n hx hb dL_law_1019 rfl (lv_at hl 3 rfl) ?_
                refine lv_aload hx hb dL_law_1020 (lv_at hl 5 rfl) ?_
                refine lv_aload hx hb dL_law_1022 (lv_at hl 6 rfl) ?_
                refine lv_aload hx hb dL_law_1024 (lv_at hl 7 rfl) ?_
                refine lv_iload hx hb dL_law_1026 (lv_at hl 11 rfl) ?_
                obtain ⟨q55, hq55, hf⟩ := Option.bind_eq_some_iff.mp hf
                refine h_Si0 (X' := []) (As := [.ref (o + 302), .ref (o + 304), .ref (o + 305), .ref (o + 306), .int q3.1]) K hS lS_L_56 (by simp) (c_L_open q3.1 q54.2 q55 hq55) rfl rfl (Nat.le_of_ble_eq_true rfl) ⟨rfl, rfl⟩ ⟨Nat.le_trans (Nat.le_of_ble_eq_true rfl) hfr, Nat.le_trans (Nat.le_of_ble_eq_true rfl) hlo⟩ hl.1 ⟨by omega, by omega⟩ dL_law_1028 (fun H locs hS => ?_)
                refine lv_istore (lv' := [(13, .int q55.1), (12, .int q54.1), (0, .ref ab), (1, .ref (o + 0)), (2, .ref (o + 302)), (3, .ref (o + 303)), (4, .ref (o + 304)), (5, .ref (o + 305)), (6, .ref (o + 306)), (7, .int e7), (8, .int q1.1), (9, .int q2.1), (10, .int q3.1)]) hx hb dL_law_1031 hl (by decide) rfl (fun ls hl => ?_)
                refine lv_aload_n hx hb dL_law_1033 rfl (lv_at hl 4 rfl) ?_
                refine lv_aload hx hb dL_law_1034 (lv_at hl 8 rfl) ?_
                refine lv_iload hx hb dL_law_1036 (lv_at hl 1 rfl) ?_
                refine lv_iload hx hb dL_law_1038 (lv_at hl 0 rfl) ?_
                obtain ⟨q56, hq56, hf⟩ := Option.bind_eq_some_iff.mp hf
                obtain ⟨Dc, hDc, hf⟩ := gLet_some hf
                refine h_Sr (X' := []) (D := q56 307) (σ' := q56) (mc := 1) (ms := 10) (As := [.ref (o + 302), .ref (o + 306), .int q54.1, .int q55.1]) K hS lS_L_60 (by simp) (c_L_costs q54.1 q55.1 q55.2 q56 hq56) rfl rfl (Nat.le_of_ble_eq_true rfl) ⟨rfl, rfl⟩ ⟨Nat.le_trans (Nat.le_of_ble_eq_true rfl) hfr, Nat.le_trans (Nat.le_of_ble_eq_true rfl) hlo⟩ hl.1 ⟨by omega, by omega⟩ dL_law_1040 (fun qc H locs hS => ?_)
                have hS : hSt G o [(ab, Lx, xs), (qc, 10, Dc)] s q56 H locs := by rw [hDc]; exact hS
                refine lv_astore (lv' := [(14, .ref qc), (13, .int q55.1), (12, .int q54.1), (0, .ref ab), (1, .ref (o + 0)), (2, .ref (o + 302)), (3, .ref (o + 303)), (4, .ref (o + 304)), (5, .ref (o + 305)), (6, .ref (o + 306)), (7, .int e7), (8, .int q1.1), (9, .int q2.1), (10, .int q3.1)]) hx hb dL_law_1043 hl (by decide) rfl (fun ls hl => ?_)
                refine lv_aload hx hb dL_law_1045 (lv_at hl 0 rfl) ?_
                refine lv_aload hx hb dL_law_1047 (lv_at hl 7 rfl) ?_
                refine lv_iload hx hb dL_law_1049 (lv_at hl 13 rfl) ?_
                obtain ⟨h57, hf⟩ := gGd_some hf
                refine h_iald (cx := 304) K hS (eLL_304 G o) (by decide) h57 rfl dL_law_1051 ?_
                obtain ⟨h58, hf⟩ := gGd_some hf
                refine h_ild K hS (n := 10) (f := Dc) (by simp) h58 dL_law_1052 ?_
                refine lv_ldc (v := 99999) hx hb hown (hts _ (gmem 575 (by decide +kernel) rfl)) dL_law_1053 ?_
                obtain ⟨J61, hJ61, hf⟩ := gLet_some hf
                have wJ61 : ∀ (j59 : Int32) (s60 : gS), J61 j59 s60 = some q → ∀ (H : Heap) (locs : List Loc) (ls : Array Slot), hSt G o [(ab, Lx, xs), (qc, 10, Dc)] s s60 H locs → lv_has ls 18 [(0, .ref ab), (1, .ref (o + 0)), (2, .ref (o + 302)), (3, .ref (o + 303)), (4, .ref (o + 304)), (5, .ref (o + 305)), (6, .ref (o + 306)), (7, .int e7), (10, .int q3.1), (12, .int q54.1), (13, .int q55.1), (14, .ref qc)] → W p l e R s m args below meth c H locs (cc + 1) (ss + 10) Q (F0 m 1063 ls [.int j59]) := by
                  intro j59 s60 hf H locs ls hS hl
                  rw [hJ61] at hf
                  refine lv_istore (lv' := [(15, .int j59), (0, .ref ab), (1, .ref (o + 0)), (2, .ref (o + 302)), (3, .ref (o + 303)), (4, .ref (o + 304)), (5, .ref (o + 305)), (6, .ref (o + 306)), (7, .int e7), (10, .int q3.1), (12, .int q54.1), (13, .int q55.1), (14, .ref qc)]) hx hb dL_law_1063 hl (by decide) rfl (fun ls hl => ?_)
                  refine lv_iload hx hb dL_law_1065 (lv_at hl 0 rfl) ?_
                  refine lv_if_ne (tgt := 1074) hx hb dL_law_1067 (by decide) (fun c62 => ?_) (fun c62 => ?_)
                  · have hf := gIf_f c62 hf
                    refine lv_iconst (v := 0) hx hb dL_law_1074 (by decide) ?_
                    refine lv_istore (lv' := [(16, .int 0), (15, .int j59), (0, .ref ab), (1, .ref (o + 0)), (2, .ref (o + 302)), (3, .ref (o + 303)), (4, .ref (o + 304)), (5, .ref (o + 305)), (6, .ref (o + 306)), (7, .int e7), (10, .int q3.1), (12, .int q54.1), (13, .int q55.1), (14, .ref qc)]) hx hb dL_law_1075 hl (by decide) rfl (fun ls hl => ?_)
                    refine w_L_law_L1077 Lx xs Dc ab qc hfr hlo hcc hss e7 q3.1 q54.1 q55.1 j59 _ K ?_ gFu 0 s60 hf _ _ _ hS (lv_sub hl [2, 3, 4, 5, 6, 7, 8, 9, 10, 11, 12, 13, 1, 0] rfl)
                    · intro  s71 hf H locs ls hS hl
                      refine lv_aload_n hx hb dL_law_1149 rfl (lv_at hl 1 rfl) ?_
                      refine lv_iload hx hb dL_law_1150 (lv_at hl 8 rfl) ?_
                      refine lv_iload hx hb dL_law_1152 (lv_at hl 9 rfl) ?_
                      obtain ⟨q72, hq72, hf⟩ := Option.bind_eq_some_iff.mp hf
                      obtain ⟨s73, hs73, hf⟩ := gLet_some hf
                      refine h_Vi (As := [.int q3.1, .int q54.1]) K hS lV_L_142 (c_X10_go q3.1 q54.1 s71 q72 hq72) rfl rfl (Nat.le_of_ble_eq_true rfl) ⟨⟨Nat.le_trans (Nat.le_of_ble_eq_true rfl) hfr, Nat.le_trans (Nat.le_of_ble_eq_true rfl) hlo⟩, rfl, rfl⟩ hl.1 ⟨by omega, by omega⟩ dL_law_1154 (fun H locs hS => ?_)
                      rw [← hs73] at hS
                      refine lv_iload hx hb dL_law_1157 (lv_at hl 10 rfl) ?_
                      obtain ⟨J77, hJ77, hf⟩ := gLet_some hf
                      have wJ77 : ∀ (j74 : Int32) (j75 : Int32) (s76 : gS), J77 j74 j75 s76 = some q → ∀ (H : Heap) (locs : List Loc) (ls : Array Slot), hSt G o [(ab, Lx, xs), (qc, 10, Dc)] s s76 H locs → lv_has ls 18 [(0, .ref ab), (1, .ref (o + 0)), (2, .ref (o + 302)), (3, .ref (o + 303)), (4, .ref (o + 304)), (5, .ref (o + 305)), (6, .ref (o + 306)), (7, .int e7)] → W p l e R s m args below meth c H locs (cc + 1) (ss + 10) Q (F0 m 1172 ls [.int j75, .int j74]) := by
                        intro j74 j75 s76 hf H locs ls hS hl
                        rw [hJ77] at hf
                        obtain ⟨J80, hJ80, hf⟩ := gLet_some hf
                        have wJ80 : ∀ (j78 : Int32) (s79 : gS), J80 j78 s79 = some q → ∀ (H : Heap) (locs : List Loc) (ls : Array Slot), hSt G o [(ab, Lx, xs), (qc, 10, Dc)] s s79 H locs → lv_has ls 18 [(0, .ref ab), (1, .ref (o + 0)), (2, .ref (o + 302)), (3, .ref (o + 303)), (4, .ref (o + 304)), (5, .ref (o + 305)), (6, .ref (o + 306)), (7, .int e7)] → W p l e R s m args below meth c H locs (cc + 1) (ss + 10) Q (F0 m 1180 ls [.int j78]) := by
                          intro j78 s79 hf H locs ls hS hl
                          rw [hJ80] at hf
                          refine lv_istore (lv' := [(11, .int j78), (0, .ref ab), (1, .ref (o + 0)), (2, .ref (o + 302)), (3, .ref (o + 303)), (4, .ref (o + 304)), (5, .ref (o + 305)), (6, .ref (o + 306)), (7, .int e7)]) hx hb dL_law_1180 hl (by decide) rfl (fun ls hl => ?_)
                          refine lv_goto (tgt := 1248) hx hb dL_law_1182 (by decide) ?_
                          exact wJ6 j78 s79 hf _ _ _ (hSt.pre (X := [(ab, Lx, xs)]) (Y := [(qc, 10, Dc)]) hS) (lv_sub hl [1, 2, 3, 4, 5, 6, 7, 8, 0] rfl)
                        clear hJ80
                        refine lv_icmp_ne (tgt := 1179) hx hb dL_law_1172 (by decide) (fun c81 => ?_) (fun c81 => ?_)
                        · have hf := gIf_f c81 hf
                          refine lv_iconst (v := 0) hx hb dL_law_1179 (by decide) ?_
                          exact wJ80 0 s76 hf _ _ _ hS (lv_sub hl [0, 1, 2, 3, 4, 5, 6, 7] rfl)
                        · have hf := gIf_t c81 hf
                          refine lv_iconst (v := 1) hx hb dL_law_1175 (by decide) ?_
                          refine lv_goto (tgt := 1180) hx hb dL_law_1176 (by decide) ?_
                          exact wJ80 1 s76 hf _ _ _ hS (lv_sub hl [0, 1, 2, 3, 4, 5, 6, 7] rfl)
                      clear hJ77
                      refine lv_if_eq (tgt := 1167) hx hb dL_law_1159 (by decide) (fun c82 => ?_) (fun c82 => ?_)
                      · have hf := gIf_t c82 hf
                        refine lv_aload hx hb dL_law_1167 (lv_at hl 4 rfl) ?_
                        refine lv_iload hx hb dL_law_1169 (lv_at hl 8 rfl) ?_
                        obtain ⟨h83, hf⟩ := gGd_some hf
                        refine h_iald (cx := 304) K hS (eLL_304 G o) (by decide) h83 rfl dL_law_1171 ?_
                        exact wJ77 q72.1 (s73 304 (gil q3.1)) s73 hf _ _ _ hS (lv_sub hl [0, 1, 2, 3, 4, 5, 6, 7] rfl)
                      · have hf := gIf_f c82 hf
                        refine lv_bipush (v := (-5)) hx hb dL_law_1162 (by decide) ?_
                        refine lv_goto (tgt := 1172) hx hb dL_law_1164 (by decide) ?_
                        exact wJ77 q72.1 (-5) s73 hf _ _ _ hS (lv_sub hl [0, 1, 2, 3, 4, 5, 6, 7] rfl)
                  · have hf := gIf_t c62 hf
                    refine lv_iconst (v := 1) hx hb dL_law_1070 (by decide) ?_
                    refine lv_goto (tgt := 1075) hx hb dL_law_1071 (by decide) ?_
                    refine lv_istore (lv' := [(16, .int 1), (15, .int j59), (0, .ref ab), (1, .ref (o + 0)), (2, .ref (o + 302)), (3, .ref (o + 303)), (4, .ref (o + 304)), (5, .ref (o + 305)), (6, .ref (o + 306)), (7, .int e7), (10, .int q3.1), (12, .int q54.1), (13, .int q55.1), (14, .ref qc)]) hx hb dL_law_1075 hl (by decide) rfl (fun ls hl => ?_)
                    refine w_L_law_L1077 Lx xs Dc ab qc hfr hlo hcc hss e7 q3.1 q54.1 q55.1 j59 _ K ?_ gFu 1 s60 hf _ _ _ hS (lv_sub hl [2, 3, 4, 5, 6, 7, 8, 9, 10, 11, 12, 13, 1, 0] rfl)
                    · intro  s84 hf H locs ls hS hl
                      refine lv_aload_n hx hb dL_law_1149 rfl (lv_at hl 1 rfl) ?_
                      refine lv_iload hx hb dL_law_1150 (lv_at hl 8 rfl) ?_
                      refine lv_iload hx hb dL_law_1152 (lv_at hl 9 rfl) ?_
                      obtain ⟨q85, hq85, hf⟩ := Option.bind_eq_some_iff.mp hf
                      obtain ⟨s86, hs86, hf⟩ := gLet_some hf
                      refine h_Vi (As := [.int q3.1, .int q54.1]) K hS lV_L_142 (c_X10_go q3.1 q54.1 s84 q85 hq85) rfl rfl (Nat.le_of_ble_eq_true rfl) ⟨⟨Nat.le_trans (Nat.le_of_ble_eq_true rfl) hfr, Nat.le_trans (Nat.le_of_ble_eq_true rfl) hlo⟩, rfl, rfl⟩ hl.1 ⟨by omega, by omega⟩ dL_law_1154 (fun H locs hS => ?_)
                      rw [← hs86] at hS
                      refine lv_iload hx hb dL_law_1157 (lv_at hl 10 rfl) ?_
                      obtain ⟨J90, hJ90, hf⟩ := gLet_some hf
                      have wJ90 : ∀ (j87 : Int32) (j88 : Int32) (s89 : gS), J90 j87 j88 s89 = some q → ∀ (H : Heap) (locs : List Loc) (ls : Array Slot), hSt G o [(ab, Lx, xs), (qc, 10, Dc)] s s89 H locs → lv_has ls 18 [(0, .ref ab), (1, .ref (o + 0)), (2, .ref (o + 302)), (3, .ref (o + 303)), (4, .ref (o + 304)), (5, .ref (o + 305)), (6, .ref (o + 306)), (7, .int e7)] → W p l e R s m args below meth c H locs (cc + 1) (ss + 10) Q (F0 m 1172 ls [.int j88, .int j87]) := by
                        intro j87 j88 s89 hf H locs ls hS hl
                        rw [hJ90] at hf
                        obtain ⟨J93, hJ93, hf⟩ := gLet_some hf
                        have wJ93 : ∀ (j91 : Int32) (s92 : gS), J93 j91 s92 = some q → ∀ (H : Heap) (locs : List Loc) (ls : Array Slot), hSt G o [(ab, Lx, xs), (qc, 10, Dc)] s s92 H locs → lv_has ls 18 [(0, .ref ab), (1, .ref (o + 0)), (2, .ref (o + 302)), (3, .ref (o + 303)), (4, .ref (o + 304)), (5, .ref (o + 305)), (6, .ref (o + 306)), (7, .int e7)] → W p l e R s m args below meth c H locs (cc + 1) (ss + 10) Q (F0 m 1180 ls [.int j91]) := by
                          intro j91 s92 hf H locs ls hS hl
                          rw [hJ93] at hf
                          refine lv_istore (lv' := [(11, .int j91), (0, .ref ab), (1, .ref (o + 0)), (2, .ref (o + 302)), (3, .ref (o + 303)), (4, .ref (o + 304)), (5, .ref (o + 305)), (6, .ref (o + 306)), (7, .int e7)]) hx hb dL_law_1180 hl (by decide) rfl (fun ls hl => ?_)
                          refine lv_goto (tgt := 1248) hx hb dL_law_1182 (by decide) ?_
                          exact wJ6 j91 s92 hf _ _ _ (hSt.pre (X := [(ab, Lx, xs)]) (Y := [(qc, 10, Dc)]) hS) (lv_sub hl [1, 2, 3, 4, 5, 6, 7, 8, 0] rfl)
                        clear hJ93
                        refine lv_icmp_ne (tgt := 1179) hx hb dL_law_1172 (by decide) (fun c94 => ?_) (fun c94 => ?_)
                        · have hf := gIf_f c94 hf
                          refine lv_iconst (v := 0) hx hb dL_law_1179 (by decide) ?_
                          exact wJ93 0 s89 hf _ _ _ hS (lv_sub hl [0, 1, 2, 3, 4, 5, 6, 7] rfl)
                        · have hf := gIf_t c94 hf
                          refine lv_iconst (v := 1) hx hb dL_law_1175 (by decide) ?_
                          refine lv_goto (tgt := 1180) hx hb dL_law_1176 (by decide) ?_
                          exact wJ93 1 s89 hf _ _ _ hS (lv_sub hl [0, 1, 2, 3, 4, 5, 6, 7] rfl)
                      clear hJ90
                      refine lv_if_eq (tgt := 1167) hx hb dL_law_1159 (by decide) (fun c95 => ?_) (fun c95 => ?_)
                      · have hf := gIf_t c95 hf
                        refine lv_aload hx hb dL_law_1167 (lv_at hl 4 rfl) ?_
                        refine lv_iload hx hb dL_law_1169 (lv_at hl 8 rfl) ?_
                        obtain ⟨h96, hf⟩ := gGd_some hf
                        refine h_iald (cx := 304) K hS (eLL_304 G o) (by decide) h96 rfl dL_law_1171 ?_
                        exact wJ90 q85.1 (s86 304 (gil q3.1)) s86 hf _ _ _ hS (lv_sub hl [0, 1, 2, 3, 4, 5, 6, 7] rfl)
                      · have hf := gIf_f c95 hf
                        refine lv_bipush (v := (-5)) hx hb dL_law_1162 (by decide) ?_
                        refine lv_goto (tgt := 1172) hx hb dL_law_1164 (by decide) ?_
                        exact wJ90 q85.1 (-5) s86 hf _ _ _ hS (lv_sub hl [0, 1, 2, 3, 4, 5, 6, 7] rfl)
                clear hJ61
                refine lv_icmp_lt (tgt := 1062) hx hb dL_law_1055 (by decide) (fun c97 => ?_) (fun c97 => ?_)
                · have hf := gIf_t c97 hf
                  refine lv_iconst (v := 0) hx hb dL_law_1062 (by decide) ?_
                  exact wJ61 0 q56 hf _ _ _ hS (lv_sub hl [3, 4, 5, 6, 7, 8, 9, 10, 13, 2, 1, 0] rfl)
                · have hf := gIf_f c97 hf
                  refine lv_iconst (v := 1) hx hb dL_law_1058 (by decide) ?_
                  refine lv_goto (tgt := 1063) hx hb dL_law_1059 (by decide) ?_
                  exact wJ61 1 q56 hf _ _ _ hS (lv_sub hl [3, 4, 5, 6, 7, 8, 9, 10, 13, 2, 1, 0] rfl)
            · have hf := gIf_f c36 hf
              refine lv_iload hx hb dL_law_831 (lv_at hl 8 rfl) ?_
              refine lv_bipush (v := 7) hx hb dL_law_833 (by decide) ?_
              refine lv_ishr hx hb dL_law_835 ?_
              refine lv_aload hx hb dL_law_836 (lv_at hl 6 rfl) ?_
              refine lv_iconst (v := 4) hx hb dL_law_838 (by decide) ?_
              refine h_iald (cx := 306) (j := 4) K hS (eLL_306 G o) (by decide) (by decide) (by decide) dL_law_839 ?_
              obtain ⟨q98, hq98, hf⟩ := Option.bind_eq_some_iff.mp hf
              refine h_Si0 (X' := []) (As := [.int (q1.1 >>> (7 &&& 31)), .int (s31 306 4)]) K hS lS_L_117 (by simp) (c_L_low (q1.1 >>> (7 &&& 31)) (s31 306 4) s31 q98 hq98) rfl rfl (Nat.le_of_ble_eq_true rfl) ⟨rfl, rfl⟩ ⟨Nat.le_trans (Nat.le_of_ble_eq_true rfl) hfr, Nat.le_trans (Nat.le_of_ble_eq_true rfl) hlo⟩ hl.1 ⟨by omega, by omega⟩ dL_law_840 (fun H locs hS => ?_)
              refine lv_istore (lv' := [(12, .int q98.1), (0, .ref ab), (1, .ref (o + 0)), (2, .ref (o + 302)), (3, .ref (o + 303)), (4, .ref (o + 304)), (5, .ref (o + 305)), (6, .ref (o + 306)), (7, .int e7), (8, .int q1.1), (9, .int q2.1), (10, .int q3.1)]) hx hb dL_law_843 hl (by decide) rfl (fun ls hl => ?_)
              refine lv_iconst (v := 0) hx hb dL_law_845 (by decide) ?_
              refine lv_istore (lv' := [(13, .int 0), (12, .int q98.1), (0, .ref ab), (1, .ref (o + 0)), (2, .ref (o + 302)), (3, .ref (o + 303)), (4, .ref (o + 304)), (5, .ref (o + 305)), (6, .ref (o + 306)), (7, .int e7), (8, .int q1.1), (9, .int q2.1), (10, .int q3.1)]) hx hb dL_law_846 hl (by decide) rfl (fun ls hl => ?_)
              refine w_L_law_L848 Lx xs ab hfr hlo hcc hss e7 q3.1 _ K ?_ gFu q98.1 0 q98.2 hf _ _ _ hS (lv_sub hl [2, 3, 4, 5, 6, 7, 8, 9, 12, 1, 0] rfl)
              · intro k108 s109 hf H locs ls hS hl
                refine lv_aload_n hx hb dL_law_902 rfl (lv_at hl 2 rfl) ?_
                refine lv_iload hx hb dL_law_903 (lv_at hl 9 rfl) ?_
                obtain ⟨q110, hq110, hf⟩ := Option.bind_eq_some_iff.mp hf
                refine h_Si0 (X' := []) (As := [.ref (o + 302), .int k108]) K hS lS_L_10 (by simp) (c_L_one k108 s109 q110 hq110) rfl rfl (Nat.le_of_ble_eq_true rfl) ⟨rfl, rfl⟩ ⟨Nat.le_trans (Nat.le_of_ble_eq_true rfl) hfr, Nat.le_trans (Nat.le_of_ble_eq_true rfl) hlo⟩ hl.1 ⟨by omega, by omega⟩ dL_law_905 (fun H locs hS => ?_)
                refine lv_aload hx hb dL_law_908 (lv_at hl 4 rfl) ?_
                refine lv_iload hx hb dL_law_910 (lv_at hl 8 rfl) ?_
                obtain ⟨h111, hf⟩ := gGd_some hf
                refine h_iald (cx := 304) K hS (eLL_304 G o) (by decide) h111 rfl dL_law_912 ?_
                obtain ⟨J114, hJ114, hf⟩ := gLet_some hf
                have wJ114 : ∀ (j112 : Int32) (s113 : gS), J114 j112 s113 = some q → ∀ (H : Heap) (locs : List Loc) (ls : Array Slot), hSt G o [(ab, Lx, xs)] s s113 H locs → lv_has ls 18 [(0, .ref ab), (1, .ref (o + 0)), (2, .ref (o + 302)), (3, .ref (o + 303)), (4, .ref (o + 304)), (5, .ref (o + 305)), (6, .ref (o + 306)), (7, .int e7), (10, .int q3.1), (12, .int k108)] → W p l e R s m args below meth c H locs cc ss Q (F0 m 952 ls [.int j112]) := by
                  intro j112 s113 hf H locs ls hS hl
                  rw [hJ114] at hf
                  refine lv_istore (lv' := [(13, .int j112), (0, .ref ab), (1, .ref (o + 0)), (2, .ref (o + 302)), (3, .ref (o + 303)), (4, .ref (o + 304)), (5, .ref (o + 305)), (6, .ref (o + 306)), (7, .int e7), (10, .int q3.1), (12, .int k108)]) hx hb dL_law_952 hl (by decide) rfl (fun ls hl => ?_)
                  refine lv_aload_n hx hb dL_law_954 rfl (lv_at hl 2 rfl) ?_
                  refine lv_iload hx hb dL_law_955 (lv_at hl 9 rfl) ?_
                  refine lv_iload hx hb dL_law_957 (lv_at hl 10 rfl) ?_
                  obtain ⟨q115, hq115, hf⟩ := Option.bind_eq_some_iff.mp hf
                  obtain ⟨s116, hs116, hf⟩ := gLet_some hf
                  refine h_Vi (As := [.int q3.1, .int k108]) K hS lV_L_136 (c_X10_glide q3.1 k108 s113 q115 hq115) rfl rfl (Nat.le_of_ble_eq_true rfl) ⟨⟨Nat.le_trans (Nat.le_of_ble_eq_true rfl) hfr, Nat.le_trans (Nat.le_of_ble_eq_true rfl) hlo⟩, rfl, rfl⟩ hl.1 ⟨by omega, by omega⟩ dL_law_959 (fun H locs hS => ?_)
                  rw [← hs116] at hS
                  refine lv_iload hx hb dL_law_962 (lv_at hl 0 rfl) ?_
                  obtain ⟨J120, hJ120, hf⟩ := gLet_some hf
                  have wJ120 : ∀ (j117 : Int32) (j118 : Int32) (s119 : gS), J120 j117 j118 s119 = some q → ∀ (H : Heap) (locs : List Loc) (ls : Array Slot), hSt G o [(ab, Lx, xs)] s s119 H locs → lv_has ls 18 [(0, .ref ab), (1, .ref (o + 0)), (2, .ref (o + 302)), (3, .ref (o + 303)), (4, .ref (o + 304)), (5, .ref (o + 305)), (6, .ref (o + 306)), (7, .int e7)] → W p l e R s m args below meth c H locs cc ss Q (F0 m 987 ls [.int j118, .int j117]) := by
                    intro j117 j118 s119 hf H locs ls hS hl
                    rw [hJ120] at hf
                    obtain ⟨J123, hJ123, hf⟩ := gLet_some hf
                    have wJ123 : ∀ (j121 : Int32) (s122 : gS), J123 j121 s122 = some q → ∀ (H : Heap) (locs : List Loc) (ls : Array Slot), hSt G o [(ab, Lx, xs)] s s122 H locs → lv_has ls 18 [(0, .ref ab), (1, .ref (o + 0)), (2, .ref (o + 302)), (3, .ref (o + 303)), (4, .ref (o + 304)), (5, .ref (o + 305)), (6, .ref (o + 306)), (7, .int e7)] → W p l e R s m args below meth c H locs cc ss Q (F0 m 995 ls [.int j121]) := by
                      intro j121 s122 hf H locs ls hS hl
                      rw [hJ123] at hf
                      refine lv_istore (lv' := [(11, .int j121), (0, .ref ab), (1, .ref (o + 0)), (2, .ref (o + 302)), (3, .ref (o + 303)), (4, .ref (o + 304)), (5, .ref (o + 305)), (6, .ref (o + 306)), (7, .int e7)]) hx hb dL_law_995 hl (by decide) rfl (fun ls hl => ?_)
                      refine lv_goto (tgt := 1248) hx hb dL_law_997 (by decide) ?_
                      refine W.widen (k := (cc + 1)) (n := (ss + 10)) (by omega) (by omega) ?_
                      exact wJ6 j121 s122 hf _ _ _ hS (lv_sub hl [1, 2, 3, 4, 5, 6, 7, 8, 0] rfl)
                    clear hJ123
                    refine lv_icmp_ne (tgt := 994) hx hb dL_law_987 (by decide) (fun c124 => ?_) (fun c124 => ?_)
                    · have hf := gIf_f c124 hf
                      refine lv_iconst (v := 0) hx hb dL_law_994 (by decide) ?_
                      exact wJ123 0 s119 hf _ _ _ hS (lv_sub hl [0, 1, 2, 3, 4, 5, 6, 7] rfl)
                    · have hf := gIf_t c124 hf
                      refine lv_iconst (v := 1) hx hb dL_law_990 (by decide) ?_
                      refine lv_goto (tgt := 995) hx hb dL_law_991 (by decide) ?_
                      exact wJ123 1 s119 hf _ _ _ hS (lv_sub hl [0, 1, 2, 3, 4, 5, 6, 7] rfl)
                  clear hJ120
                  refine lv_if_eq (tgt := 985) hx hb dL_law_964 (by decide) (fun c125 => ?_) (fun c125 => ?_)
                  · have hf := gIf_t c125 hf
                    refine lv_bipush (v := (-5)) hx hb dL_law_985 (by decide) ?_
                    exact wJ120 q115.1 (-5) s116 hf _ _ _ hS (lv_sub hl [1, 2, 3, 4, 5, 6, 7, 8] rfl)
                  · have hf := gIf_f c125 hf
                    refine lv_aload_n hx hb dL_law_967 rfl (lv_at hl 3 rfl) ?_
                    refine lv_aload_n hx hb dL_law_968 rfl (lv_at hl 4 rfl) ?_
                    refine lv_aload hx hb dL_law_969 (lv_at hl 5 rfl) ?_
                    refine lv_aload hx hb dL_law_971 (lv_at hl 6 rfl) ?_
                    refine lv_aload hx hb dL_law_973 (lv_at hl 7 rfl) ?_
                    refine lv_iload hx hb dL_law_975 (lv_at hl 9 rfl) ?_
                    refine lv_iload hx hb dL_law_977 (lv_at hl 10 rfl) ?_
                    obtain ⟨q126, hq126, hf⟩ := Option.bind_eq_some_iff.mp hf
                    refine h_Si0 (X' := []) (As := [.ref (o + 302), .ref (o + 303), .ref (o + 304), .ref (o + 305), .ref (o + 306), .int q3.1, .int k108]) K hS lS_L_139 (by simp) (c_L_glide q3.1 k108 s116 q126 hq126) rfl rfl (Nat.le_of_ble_eq_true rfl) ⟨rfl, rfl⟩ ⟨Nat.le_trans (Nat.le_of_ble_eq_true rfl) hfr, Nat.le_trans (Nat.le_of_ble_eq_true rfl) hlo⟩ hl.1 ⟨by omega, by omega⟩ dL_law_979 (fun H locs hS => ?_)
                    refine lv_goto (tgt := 987) hx hb dL_law_982 (by decide) ?_
                    exact wJ120 q115.1 q126.1 q126.2 hf _ _ _ hS (lv_sub hl [1, 2, 3, 4, 5, 6, 7, 8] rfl)
                clear hJ114
                obtain ⟨J128, hJ128, hf⟩ := gLet_some hf
                have wJ128 : ∀  (s127 : gS), J128  s127 = some q → ∀ (H : Heap) (locs : List Loc) (ls : Array Slot), hSt G o [(ab, Lx, xs)] s s127 H locs → lv_has ls 18 [(0, .ref ab), (1, .ref (o + 0)), (2, .ref (o + 302)), (3, .ref (o + 303)), (4, .ref (o + 304)), (5, .ref (o + 305)), (6, .ref (o + 306)), (7, .int e7), (10, .int q3.1), (12, .int k108)] → W p l e R s m args below meth c H locs cc ss Q (F0 m 951 ls []) := by
                  intro  s127 hf H locs ls hS hl
                  rw [hJ128] at hf
                  refine lv_iconst (v := 0) hx hb dL_law_951 (by decide) ?_
                  exact wJ114 0 s127 hf _ _ _ hS (lv_sub hl [0, 1, 2, 3, 4, 5, 6, 7, 8, 9] rfl)
                clear hJ128
                obtain ⟨J130, hJ130, hf⟩ := gLet_some hf
                have wJ130 : ∀  (s129 : gS), J130  s129 = some q → ∀ (H : Heap) (locs : List Loc) (ls : Array Slot), hSt G o [(ab, Lx, xs)] s s129 H locs → lv_has ls 18 [(0, .ref ab), (1, .ref (o + 0)), (2, .ref (o + 302)), (3, .ref (o + 303)), (4, .ref (o + 304)), (5, .ref (o + 305)), (6, .ref (o + 306)), (7, .int e7), (10, .int q3.1), (12, .int k108)] → W p l e R s m args below meth c H locs cc ss Q (F0 m 930 ls []) := by
                  intro  s129 hf H locs ls hS hl
                  rw [hJ130] at hf
                  refine lv_aload_n hx hb dL_law_930 rfl (lv_at hl 2 rfl) ?_
                  refine lv_aload hx hb dL_law_931 (lv_at hl 4 rfl) ?_
                  refine lv_aload hx hb dL_law_933 (lv_at hl 5 rfl) ?_
                  refine lv_aload hx hb dL_law_935 (lv_at hl 6 rfl) ?_
                  refine lv_iload hx hb dL_law_937 (lv_at hl 8 rfl) ?_
                  refine lv_iload hx hb dL_law_939 (lv_at hl 9 rfl) ?_
                  obtain ⟨q131, hq131, hf⟩ := Option.bind_eq_some_iff.mp hf
                  refine h_Si0 (X' := []) (As := [.ref (o + 302), .ref (o + 304), .ref (o + 305), .ref (o + 306), .int q3.1, .int k108]) K hS lS_L_40 (by simp) (c_L_free q3.1 k108 s129 q131 hq131) rfl rfl (Nat.le_of_ble_eq_true rfl) ⟨rfl, rfl⟩ ⟨Nat.le_trans (Nat.le_of_ble_eq_true rfl) hfr, Nat.le_trans (Nat.le_of_ble_eq_true rfl) hlo⟩ hl.1 ⟨by omega, by omega⟩ dL_law_941 (fun H locs hS => ?_)
                  refine lv_if_eq (tgt := 951) hx hb dL_law_944 (by decide) (fun c132 => ?_) (fun c132 => ?_)
                  · have hf := gIf_t c132 hf
                    exact wJ128  q131.2 hf _ _ _ hS (lv_sub hl [0, 1, 2, 3, 4, 5, 6, 7, 8, 9] rfl)
                  · have hf := gIf_f c132 hf
                    refine lv_iconst (v := 1) hx hb dL_law_947 (by decide) ?_
                    refine lv_goto (tgt := 952) hx hb dL_law_948 (by decide) ?_
                    exact wJ114 1 q131.2 hf _ _ _ hS (lv_sub hl [0, 1, 2, 3, 4, 5, 6, 7, 8, 9] rfl)
                clear hJ130
                refine lv_icmp_eq (tgt := 930) hx hb dL_law_913 (by decide) (fun c133 => ?_) (fun c133 => ?_)
                · have hf := gIf_t c133 hf
                  exact wJ130  q110.2 hf _ _ _ hS (lv_sub hl [0, 1, 2, 3, 4, 5, 6, 7, 8, 9] rfl)
                · have hf := gIf_f c133 hf
                  refine lv_aload_n hx hb dL_law_916 rfl (lv_at hl 2 rfl) ?_
                  refine lv_iload hx hb dL_law_917 (lv_at hl 9 rfl) ?_
                  obtain ⟨q134, hq134, hf⟩ := Option.bind_eq_some_iff.mp hf
                  refine h_Si0 (X' := []) (As := [.ref (o + 302), .int k108]) K hS lS_L_16 (by simp) (c_L_two k108 q110.2 q134 hq134) rfl rfl (Nat.le_of_ble_eq_true rfl) ⟨rfl, rfl⟩ ⟨Nat.le_trans (Nat.le_of_ble_eq_true rfl) hfr, Nat.le_trans (Nat.le_of_ble_eq_true rfl) hlo⟩ hl.1 ⟨by omega, by omega⟩ dL_law_919 (fun H locs hS => ?_)
                  refine lv_aload hx hb dL_law_922 (lv_at hl 4 rfl) ?_
                  refine lv_iload hx hb dL_law_924 (lv_at hl 8 rfl) ?_
                  obtain ⟨h135, hf⟩ := gGd_some hf
                  refine h_iald (cx := 304) K hS (eLL_304 G o) (by decide) h135 rfl dL_law_926 ?_
                  refine lv_icmp_ne (tgt := 951) hx hb dL_law_927 (by decide) (fun c136 => ?_) (fun c136 => ?_)
                  · have hf := gIf_f c136 hf
                    exact wJ128  q134.2 hf _ _ _ hS (lv_sub hl [0, 1, 2, 3, 4, 5, 6, 7, 8, 9] rfl)
                  · have hf := gIf_t c136 hf
                    exact wJ130  q134.2 hf _ _ _ hS (lv_sub hl [0, 1, 2, 3, 4, 5, 6, 7, 8, 9] rfl)
          · have hf := gIf_t c35 hf
            refine lv_iload hx hb dL_law_779 (lv_at hl 8 rfl) ?_
            refine lv_bipush (v := 7) hx hb dL_law_781 (by decide) ?_
            refine lv_ishr hx hb dL_law_783 ?_
            refine lv_bipush (v := 10) hx hb dL_law_784 (by decide) ?_
            obtain ⟨q137, hq137, hf⟩ := Option.bind_eq_some_iff.mp hf
            refine h_Si0 (X' := []) (As := [.int (q1.1 >>> (7 &&& 31)), .int 10]) K hS lS_L_117 (by simp) (c_L_low (q1.1 >>> (7 &&& 31)) 10 s31 q137 hq137) rfl rfl (Nat.le_of_ble_eq_true rfl) ⟨rfl, rfl⟩ ⟨Nat.le_trans (Nat.le_of_ble_eq_true rfl) hfr, Nat.le_trans (Nat.le_of_ble_eq_true rfl) hlo⟩ hl.1 ⟨by omega, by omega⟩ dL_law_786 (fun H locs hS => ?_)
            refine lv_istore (lv' := [(12, .int q137.1), (0, .ref ab), (1, .ref (o + 0)), (2, .ref (o + 302)), (3, .ref (o + 303)), (4, .ref (o + 304)), (5, .ref (o + 305)), (6, .ref (o + 306)), (7, .int e7), (8, .int q1.1), (9, .int q2.1), (10, .int q3.1)]) hx hb dL_law_789 hl (by decide) rfl (fun ls hl => ?_)
            refine lv_aload_n hx hb dL_law_791 rfl (lv_at hl 2 rfl) ?_
            refine lv_iload hx hb dL_law_792 (lv_at hl 11 rfl) ?_
            refine lv_iload hx hb dL_law_794 (lv_at hl 0 rfl) ?_
            obtain ⟨q138, hq138, hf⟩ := Option.bind_eq_some_iff.mp hf
            obtain ⟨s139, hs139, hf⟩ := gLet_some hf
            refine h_Vi (As := [.int q3.1, .int q137.1]) K hS lV_L_133 (c_X10_put q3.1 q137.1 q137.2 q138 hq138) rfl rfl (Nat.le_of_ble_eq_true rfl) ⟨⟨Nat.le_trans (Nat.le_of_ble_eq_true rfl) hfr, Nat.le_trans (Nat.le_of_ble_eq_true rfl) hlo⟩, rfl, rfl⟩ hl.1 ⟨by omega, by omega⟩ dL_law_796 (fun H locs hS => ?_)
            rw [← hs139] at hS
            refine lv_aload hx hb dL_law_799 (lv_at hl 5 rfl) ?_
            refine lv_iload hx hb dL_law_801 (lv_at hl 11 rfl) ?_
            obtain ⟨h140, hf⟩ := gGd_some hf
            refine h_iald (cx := 304) K hS (eLL_304 G o) (by decide) h140 rfl dL_law_803 ?_
            obtain ⟨J143, hJ143, hf⟩ := gLet_some hf
            have wJ143 : ∀ (j141 : Int32) (s142 : gS), J143 j141 s142 = some q → ∀ (H : Heap) (locs : List Loc) (ls : Array Slot), hSt G o [(ab, Lx, xs)] s s142 H locs → lv_has ls 18 [(0, .ref ab), (1, .ref (o + 0)), (2, .ref (o + 302)), (3, .ref (o + 303)), (4, .ref (o + 304)), (5, .ref (o + 305)), (6, .ref (o + 306)), (7, .int e7), (10, .int q3.1), (12, .int q137.1)] → W p l e R s m args below meth c H locs cc ss Q (F0 m 812 ls [.int j141]) := by
              intro j141 s142 hf H locs ls hS hl
              rw [hJ143] at hf
              refine lv_istore (lv' := [(11, .int j141), (0, .ref ab), (1, .ref (o + 0)), (2, .ref (o + 302)), (3, .ref (o + 303)), (4, .ref (o + 304)), (5, .ref (o + 305)), (6, .ref (o + 306)), (7, .int e7), (10, .int q3.1), (12, .int q137.1)]) hx hb dL_law_812 hl (by decide) rfl (fun ls hl => ?_)
              refine lv_aload hx hb dL_law_814 (lv_at hl 5 rfl) ?_
              refine lv_iload hx hb dL_law_816 (lv_at hl 9 rfl) ?_
              refine lv_iload hx hb dL_law_818 (lv_at hl 10 rfl) ?_
              obtain ⟨h145, hf⟩ := gGd_some hf
              obtain ⟨s144, hs144, hf⟩ := gLet_some hf
              refine h_iast (cx := 304) K hS (eLL_304 G o) (by decide) h145 rfl dL_law_820 (fun H locs hS => ?_)
              rw [← hs144] at hS
              refine lv_goto (tgt := 1248) hx hb dL_law_821 (by decide) ?_
              refine W.widen (k := (cc + 1)) (n := (ss + 10)) (by omega) (by omega) ?_
              exact wJ6 j141 s144 hf _ _ _ hS (lv_sub hl [1, 2, 3, 4, 5, 6, 7, 8, 0] rfl)
            clear hJ143
            refine lv_icmp_ne (tgt := 811) hx hb dL_law_804 (by decide) (fun c146 => ?_) (fun c146 => ?_)
            · have hf := gIf_f c146 hf
              refine lv_iconst (v := 0) hx hb dL_law_811 (by decide) ?_
              exact wJ143 0 s139 hf _ _ _ hS (lv_sub hl [1, 2, 3, 4, 5, 6, 7, 8, 11, 0] rfl)
            · have hf := gIf_t c146 hf
              refine lv_iconst (v := 1) hx hb dL_law_807 (by decide) ?_
              refine lv_goto (tgt := 812) hx hb dL_law_808 (by decide) ?_
              exact wJ143 1 s139 hf _ _ _ hS (lv_sub hl [1, 2, 3, 4, 5, 6, 7, 8, 11, 0] rfl)
        · have hf := gIf_t c34 hf
          refine lv_iload hx hb dL_law_660 (lv_at hl 8 rfl) ?_
          refine lv_bipush (v := 7) hx hb dL_law_662 (by decide) ?_
          refine lv_ishr hx hb dL_law_664 ?_
          refine lv_iconst (v := 2) hx hb dL_law_665 (by decide) ?_
          obtain ⟨q147, hq147, hf⟩ := Option.bind_eq_some_iff.mp hf
          refine h_Si0 (X' := []) (As := [.int (q1.1 >>> (7 &&& 31)), .int 2]) K hS lS_L_117 (by simp) (c_L_low (q1.1 >>> (7 &&& 31)) 2 s31 q147 hq147) rfl rfl (Nat.le_of_ble_eq_true rfl) ⟨rfl, rfl⟩ ⟨Nat.le_trans (Nat.le_of_ble_eq_true rfl) hfr, Nat.le_trans (Nat.le_of_ble_eq_true rfl) hlo⟩ hl.1 ⟨by omega, by omega⟩ dL_law_666 (fun H locs hS => ?_)
          refine lv_istore (lv' := [(12, .int q147.1), (0, .ref ab), (1, .ref (o + 0)), (2, .ref (o + 302)), (3, .ref (o + 303)), (4, .ref (o + 304)), (5, .ref (o + 305)), (6, .ref (o + 306)), (7, .int e7), (8, .int q1.1), (9, .int q2.1), (10, .int q3.1)]) hx hb dL_law_669 hl (by decide) rfl (fun ls hl => ?_)
          refine lv_iload hx hb dL_law_671 (lv_at hl 0 rfl) ?_
          obtain ⟨J150, hJ150, hf⟩ := gLet_some hf
          have wJ150 : ∀ (j148 : Int32) (s149 : gS), J150 j148 s149 = some q → ∀ (H : Heap) (locs : List Loc) (ls : Array Slot), hSt G o [(ab, Lx, xs)] s s149 H locs → lv_has ls 18 [(0, .ref ab), (1, .ref (o + 0)), (2, .ref (o + 302)), (3, .ref (o + 303)), (4, .ref (o + 304)), (5, .ref (o + 305)), (6, .ref (o + 306)), (7, .int e7), (12, .int q147.1)] → W p l e R s m args below meth c H locs cc ss Q (F0 m 737 ls [.int j148]) := by
            intro j148 s149 hf H locs ls hS hl
            rw [hJ150] at hf
            refine lv_istore (lv' := [(13, .int j148), (0, .ref ab), (1, .ref (o + 0)), (2, .ref (o + 302)), (3, .ref (o + 303)), (4, .ref (o + 304)), (5, .ref (o + 305)), (6, .ref (o + 306)), (7, .int e7), (12, .int q147.1)]) hx hb dL_law_737 hl (by decide) rfl (fun ls hl => ?_)
            refine lv_aload_n hx hb dL_law_739 rfl (lv_at hl 2 rfl) ?_
            refine lv_iload hx hb dL_law_740 (lv_at hl 9 rfl) ?_
            refine lv_iload hx hb dL_law_742 (lv_at hl 0 rfl) ?_
            obtain ⟨q151, hq151, hf⟩ := Option.bind_eq_some_iff.mp hf
            obtain ⟨s152, hs152, hf⟩ := gLet_some hf
            refine h_Vi (As := [.int q147.1, .int j148]) K hS lV_L_130 (c_X10_set q147.1 j148 s149 q151 hq151) rfl rfl (Nat.le_of_ble_eq_true rfl) ⟨⟨Nat.le_trans (Nat.le_of_ble_eq_true rfl) hfr, Nat.le_trans (Nat.le_of_ble_eq_true rfl) hlo⟩, rfl, rfl⟩ hl.1 ⟨by omega, by omega⟩ dL_law_744 (fun H locs hS => ?_)
            rw [← hs152] at hS
            refine lv_aload hx hb dL_law_747 (lv_at hl 7 rfl) ?_
            refine lv_iload hx hb dL_law_749 (lv_at hl 9 rfl) ?_
            obtain ⟨h153, hf⟩ := gGd_some hf
            refine h_iald (cx := 306) K hS (eLL_306 G o) (by decide) h153 rfl dL_law_751 ?_
            obtain ⟨J156, hJ156, hf⟩ := gLet_some hf
            have wJ156 : ∀ (j154 : Int32) (s155 : gS), J156 j154 s155 = some q → ∀ (H : Heap) (locs : List Loc) (ls : Array Slot), hSt G o [(ab, Lx, xs)] s s155 H locs → lv_has ls 18 [(0, .ref ab), (1, .ref (o + 0)), (2, .ref (o + 302)), (3, .ref (o + 303)), (4, .ref (o + 304)), (5, .ref (o + 305)), (6, .ref (o + 306)), (7, .int e7), (12, .int q147.1), (13, .int j148)] → W p l e R s m args below meth c H locs cc ss Q (F0 m 760 ls [.int j154]) := by
              intro j154 s155 hf H locs ls hS hl
              rw [hJ156] at hf
              refine lv_istore (lv' := [(11, .int j154), (0, .ref ab), (1, .ref (o + 0)), (2, .ref (o + 302)), (3, .ref (o + 303)), (4, .ref (o + 304)), (5, .ref (o + 305)), (6, .ref (o + 306)), (7, .int e7), (12, .int q147.1), (13, .int j148)]) hx hb dL_law_760 hl (by decide) rfl (fun ls hl => ?_)
              refine lv_aload hx hb dL_law_762 (lv_at hl 7 rfl) ?_
              refine lv_iload hx hb dL_law_764 (lv_at hl 9 rfl) ?_
              refine lv_iload hx hb dL_law_766 (lv_at hl 10 rfl) ?_
              obtain ⟨h158, hf⟩ := gGd_some hf
              obtain ⟨s157, hs157, hf⟩ := gLet_some hf
              refine h_iast (cx := 306) K hS (eLL_306 G o) (by decide) h158 rfl dL_law_768 (fun H locs hS => ?_)
              rw [← hs157] at hS
              refine lv_goto (tgt := 1248) hx hb dL_law_769 (by decide) ?_
              refine W.widen (k := (cc + 1)) (n := (ss + 10)) (by omega) (by omega) ?_
              exact wJ6 j154 s157 hf _ _ _ hS (lv_sub hl [1, 2, 3, 4, 5, 6, 7, 8, 0] rfl)
            clear hJ156
            refine lv_icmp_ne (tgt := 759) hx hb dL_law_752 (by decide) (fun c159 => ?_) (fun c159 => ?_)
            · have hf := gIf_f c159 hf
              refine lv_iconst (v := 0) hx hb dL_law_759 (by decide) ?_
              exact wJ156 0 s152 hf _ _ _ hS (lv_sub hl [1, 2, 3, 4, 5, 6, 7, 8, 9, 0] rfl)
            · have hf := gIf_t c159 hf
              refine lv_iconst (v := 1) hx hb dL_law_755 (by decide) ?_
              refine lv_goto (tgt := 760) hx hb dL_law_756 (by decide) ?_
              exact wJ156 1 s152 hf _ _ _ hS (lv_sub hl [1, 2, 3, 4, 5, 6, 7, 8, 9, 0] rfl)
          clear hJ150
          refine lv_if_ne (tgt := 710) hx hb dL_law_673 (by decide) (fun c160 => ?_) (fun c160 => ?_)
          · have hf := gIf_f c160 hf
            refine lv_iload hx hb dL_law_710 (lv_at hl 9 rfl) ?_
            refine lv_bipush (v := 8) hx hb dL_law_712 (by decide) ?_
            refine lv_ishr hx hb dL_law_714 ?_
            refine lv_iload hx hb dL_law_715 (lv_at hl 9 rfl) ?_
            refine lv_bipush (v := 25) hx hb dL_law_717 (by decide) ?_
            refine lv_ishr hx hb dL_law_719 ?_
            refine lv_iconst (v := 2) hx hb dL_law_720 (by decide) ?_
            obtain ⟨q161, hq161, hf⟩ := Option.bind_eq_some_iff.mp hf
            refine h_Si0 (X' := []) (As := [.int (q1.1 >>> (25 &&& 31)), .int 2]) K hS lS_L_117 (by simp) (c_L_low (q1.1 >>> (25 &&& 31)) 2 q147.2 q161 hq161) rfl rfl (Nat.le_of_ble_eq_true rfl) ⟨rfl, rfl⟩ ⟨Nat.le_trans (Nat.le_of_ble_eq_true rfl) hfr, Nat.le_trans (Nat.le_of_ble_eq_true rfl) hlo⟩ hl.1 ⟨by omega, by omega⟩ dL_law_721 (fun H locs hS => ?_)
            obtain ⟨J165, hJ165, hf⟩ := gLet_some hf
            have wJ165 : ∀ (j162 : Int32) (j163 : Int32) (s164 : gS), J165 j162 j163 s164 = some q → ∀ (H : Heap) (locs : List Loc) (ls : Array Slot), hSt G o [(ab, Lx, xs)] s s164 H locs → lv_has ls 18 [(0, .ref ab), (1, .ref (o + 0)), (2, .ref (o + 302)), (3, .ref (o + 303)), (4, .ref (o + 304)), (5, .ref (o + 305)), (6, .ref (o + 306)), (7, .int e7), (12, .int q147.1)] → W p l e R s m args below meth c H locs cc ss Q (F0 m 734 ls [.int j163, .int j162]) := by
              intro j162 j163 s164 hf H locs ls hS hl
              rw [hJ165] at hf
              obtain ⟨q166, hq166, hf⟩ := Option.bind_eq_some_iff.mp hf
              refine h_Si0 (X' := []) (As := [.int j162, .int j163]) K hS lS_L_117 (by simp) (c_L_low j162 j163 s164 q166 hq166) rfl rfl (Nat.le_of_ble_eq_true rfl) ⟨rfl, rfl⟩ ⟨Nat.le_trans (Nat.le_of_ble_eq_true rfl) hfr, Nat.le_trans (Nat.le_of_ble_eq_true rfl) hlo⟩ hl.1 ⟨by omega, by omega⟩ dL_law_734 (fun H locs hS => ?_)
              exact wJ150 q166.1 q166.2 hf _ _ _ hS (lv_sub hl [0, 1, 2, 3, 4, 5, 6, 7, 8] rfl)
            clear hJ165
            refine lv_if_ne (tgt := 732) hx hb dL_law_724 (by decide) (fun c167 => ?_) (fun c167 => ?_)
            · have hf := gIf_f c167 hf
              refine lv_bipush (v := 8) hx hb dL_law_732 (by decide) ?_
              exact wJ165 (q1.1 >>> (8 &&& 31)) 8 q161.2 hf _ _ _ hS (lv_sub hl [1, 2, 3, 4, 5, 6, 7, 8, 0] rfl)
            · have hf := gIf_t c167 hf
              refine lv_bipush (v := 61) hx hb dL_law_727 (by decide) ?_
              refine lv_goto (tgt := 734) hx hb dL_law_729 (by decide) ?_
              exact wJ165 (q1.1 >>> (8 &&& 31)) 61 q161.2 hf _ _ _ hS (lv_sub hl [1, 2, 3, 4, 5, 6, 7, 8, 0] rfl)
          · have hf := gIf_t c160 hf
            refine lv_bipush (v := 10) hx hb dL_law_676 (by decide) ?_
            refine lv_iload hx hb dL_law_678 (lv_at hl 9 rfl) ?_
            refine lv_bipush (v := 8) hx hb dL_law_680 (by decide) ?_
            refine lv_ishr hx hb dL_law_682 ?_
            refine lv_iload hx hb dL_law_683 (lv_at hl 9 rfl) ?_
            refine lv_bipush (v := 25) hx hb dL_law_685 (by decide) ?_
            refine lv_ishr hx hb dL_law_687 ?_
            refine lv_iconst (v := 2) hx hb dL_law_688 (by decide) ?_
            obtain ⟨q168, hq168, hf⟩ := Option.bind_eq_some_iff.mp hf
            refine h_Si0 (X' := []) (As := [.int (q1.1 >>> (25 &&& 31)), .int 2]) K hS lS_L_117 (by simp) (c_L_low (q1.1 >>> (25 &&& 31)) 2 q147.2 q168 hq168) rfl rfl (Nat.le_of_ble_eq_true rfl) ⟨rfl, rfl⟩ ⟨Nat.le_trans (Nat.le_of_ble_eq_true rfl) hfr, Nat.le_trans (Nat.le_of_ble_eq_true rfl) hlo⟩ hl.1 ⟨by omega, by omega⟩ dL_law_689 (fun H locs hS => ?_)
            obtain ⟨J173, hJ173, hf⟩ := gLet_some hf
            have wJ173 : ∀ (j169 : Int32) (j170 : Int32) (j171 : Int32) (s172 : gS), J173 j169 j170 j171 s172 = some q → ∀ (H : Heap) (locs : List Loc) (ls : Array Slot), hSt G o [(ab, Lx, xs)] s s172 H locs → lv_has ls 18 [(0, .ref ab), (1, .ref (o + 0)), (2, .ref (o + 302)), (3, .ref (o + 303)), (4, .ref (o + 304)), (5, .ref (o + 305)), (6, .ref (o + 306)), (7, .int e7), (12, .int q147.1)] → W p l e R s m args below meth c H locs cc ss Q (F0 m 703 ls [.int j171, .int j170, .int j169]) := by
              intro j169 j170 j171 s172 hf H locs ls hS hl
              rw [hJ173] at hf
              obtain ⟨q174, hq174, hf⟩ := Option.bind_eq_some_iff.mp hf
              refine h_Si0 (X' := []) (As := [.int j170, .int j171]) K hS lS_L_117 (by simp) (c_L_low j170 j171 s172 q174 hq174) rfl rfl (Nat.le_of_ble_eq_true rfl) ⟨rfl, rfl⟩ ⟨Nat.le_trans (Nat.le_of_ble_eq_true rfl) hfr, Nat.le_trans (Nat.le_of_ble_eq_true rfl) hlo⟩ hl.1 ⟨by omega, by omega⟩ dL_law_703 (fun H locs hS => ?_)
              refine lv_iadd hx hb dL_law_706 ?_
              refine lv_goto (tgt := 737) hx hb dL_law_707 (by decide) ?_
              exact wJ150 (j169 + q174.1) q174.2 hf _ _ _ hS (lv_sub hl [0, 1, 2, 3, 4, 5, 6, 7, 8] rfl)
            clear hJ173
            refine lv_if_ne (tgt := 701) hx hb dL_law_692 (by decide) (fun c175 => ?_) (fun c175 => ?_)
            · have hf := gIf_f c175 hf
              refine lv_bipush (v := 20) hx hb dL_law_701 (by decide) ?_
              exact wJ173 10 (q1.1 >>> (8 &&& 31)) 20 q168.2 hf _ _ _ hS (lv_sub hl [1, 2, 3, 4, 5, 6, 7, 8, 0] rfl)
            · have hf := gIf_t c175 hf
              refine lv_sipush (v := 191) hx hb dL_law_695 (by decide) ?_
              refine lv_goto (tgt := 703) hx hb dL_law_698 (by decide) ?_
              exact wJ173 10 (q1.1 >>> (8 &&& 31)) 191 q168.2 hf _ _ _ hS (lv_sub hl [1, 2, 3, 4, 5, 6, 7, 8, 0] rfl)
      · have hf := gIf_t c33 hf
        refine lv_iload hx hb dL_law_450 (lv_at hl 8 rfl) ?_
        refine lv_bipush (v := 7) hx hb dL_law_452 (by decide) ?_
        refine lv_ishr hx hb dL_law_454 ?_
        refine lv_aload hx hb dL_law_455 (lv_at hl 6 rfl) ?_
        refine lv_iconst (v := 4) hx hb dL_law_457 (by decide) ?_
        refine h_iald (cx := 306) (j := 4) K hS (eLL_306 G o) (by decide) (by decide) (by decide) dL_law_458 ?_
        refine lv_iconst (v := 1) hx hb dL_law_459 (by decide) ?_
        refine lv_iadd hx hb dL_law_460 ?_
        obtain ⟨q176, hq176, hf⟩ := Option.bind_eq_some_iff.mp hf
        refine h_Si0 (X' := []) (As := [.int (q1.1 >>> (7 &&& 31)), .int ((s31 306 4) + 1)]) K hS lS_L_117 (by simp) (c_L_low (q1.1 >>> (7 &&& 31)) ((s31 306 4) + 1) s31 q176 hq176) rfl rfl (Nat.le_of_ble_eq_true rfl) ⟨rfl, rfl⟩ ⟨Nat.le_trans (Nat.le_of_ble_eq_true rfl) hfr, Nat.le_trans (Nat.le_of_ble_eq_true rfl) hlo⟩ hl.1 ⟨by omega, by omega⟩ dL_law_461 (fun H locs hS => ?_)
        refine lv_istore (lv' := [(12, .int q176.1), (0, .ref ab), (1, .ref (o + 0)), (2, .ref (o + 302)), (3, .ref (o + 303)), (4, .ref (o + 304)), (5, .ref (o + 305)), (6, .ref (o + 306)), (7, .int e7), (8, .int q1.1), (9, .int q2.1), (10, .int q3.1)]) hx hb dL_law_464 hl (by decide) rfl (fun ls hl => ?_)
        refine lv_iload hx hb dL_law_466 (lv_at hl 0 rfl) ?_
        refine lv_aload hx hb dL_law_468 (lv_at hl 7 rfl) ?_
        refine lv_iconst (v := 4) hx hb dL_law_470 (by decide) ?_
        refine h_iald (cx := 306) (j := 4) K hS (eLL_306 G o) (by decide) (by decide) (by decide) dL_law_471 ?_
        obtain ⟨J179, hJ179, hf⟩ := gLet_some hf
        have wJ179 : ∀ (j177 : Int32) (s178 : gS), J179 j177 s178 = some q → ∀ (H : Heap) (locs : List Loc) (ls : Array Slot), hSt G o [(ab, Lx, xs)] s s178 H locs → lv_has ls 18 [(0, .ref ab), (1, .ref (o + 0)), (2, .ref (o + 302)), (3, .ref (o + 303)), (4, .ref (o + 304)), (5, .ref (o + 305)), (6, .ref (o + 306)), (7, .int e7), (12, .int q176.1)] → W p l e R s m args below meth c H locs cc ss Q (F0 m 480 ls [.int j177]) := by
          intro j177 s178 hf H locs ls hS hl
          rw [hJ179] at hf
          refine lv_istore (lv' := [(13, .int j177), (0, .ref ab), (1, .ref (o + 0)), (2, .ref (o + 302)), (3, .ref (o + 303)), (4, .ref (o + 304)), (5, .ref (o + 305)), (6, .ref (o + 306)), (7, .int e7), (12, .int q176.1)]) hx hb dL_law_480 hl (by decide) rfl (fun ls hl => ?_)
          refine lv_iload hx hb dL_law_482 (lv_at hl 0 rfl) ?_
          obtain ⟨J181, hJ181, hf⟩ := gLet_some hf
          have wJ181 : ∀  (s180 : gS), J181  s180 = some q → ∀ (H : Heap) (locs : List Loc) (ls : Array Slot), hSt G o [(ab, Lx, xs)] s s180 H locs → lv_has ls 18 [(0, .ref ab), (1, .ref (o + 0)), (2, .ref (o + 302)), (3, .ref (o + 303)), (4, .ref (o + 304)), (5, .ref (o + 305)), (6, .ref (o + 306)), (7, .int e7), (12, .int q176.1), (13, .int j177)] → W p l e R s m args below meth c H locs cc ss Q (F0 m 621 ls []) := by
            intro  s180 hf H locs ls hS hl
            rw [hJ181] at hf
            refine lv_aload_n hx hb dL_law_621 rfl (lv_at hl 1 rfl) ?_
            refine lv_iload hx hb dL_law_622 (lv_at hl 8 rfl) ?_
            obtain ⟨q182, hq182, hf⟩ := Option.bind_eq_some_iff.mp hf
            obtain ⟨s183, hs183, hf⟩ := gLet_some hf
            refine h_Vi (As := [.int q176.1]) K hS lV_L_127 (c_X10_takeUp q176.1 s180 q182 hq182) rfl rfl (Nat.le_of_ble_eq_true rfl) ⟨⟨Nat.le_trans (Nat.le_of_ble_eq_true rfl) hfr, Nat.le_trans (Nat.le_of_ble_eq_true rfl) hlo⟩, rfl, rfl⟩ hl.1 ⟨by omega, by omega⟩ dL_law_624 (fun H locs hS => ?_)
            rw [← hs183] at hS
            refine lv_iload hx hb dL_law_627 (lv_at hl 9 rfl) ?_
            obtain ⟨J187, hJ187, hf⟩ := gLet_some hf
            have wJ187 : ∀ (j184 : Int32) (j185 : Int32) (s186 : gS), J187 j184 j185 s186 = some q → ∀ (H : Heap) (locs : List Loc) (ls : Array Slot), hSt G o [(ab, Lx, xs)] s s186 H locs → lv_has ls 18 [(0, .ref ab), (1, .ref (o + 0)), (2, .ref (o + 302)), (3, .ref (o + 303)), (4, .ref (o + 304)), (5, .ref (o + 305)), (6, .ref (o + 306)), (7, .int e7)] → W p l e R s m args below meth c H locs cc ss Q (F0 m 640 ls [.int j185, .int j184]) := by
              intro j184 j185 s186 hf H locs ls hS hl
              rw [hJ187] at hf
              obtain ⟨J190, hJ190, hf⟩ := gLet_some hf
              have wJ190 : ∀ (j188 : Int32) (s189 : gS), J190 j188 s189 = some q → ∀ (H : Heap) (locs : List Loc) (ls : Array Slot), hSt G o [(ab, Lx, xs)] s s189 H locs → lv_has ls 18 [(0, .ref ab), (1, .ref (o + 0)), (2, .ref (o + 302)), (3, .ref (o + 303)), (4, .ref (o + 304)), (5, .ref (o + 305)), (6, .ref (o + 306)), (7, .int e7)] → W p l e R s m args below meth c H locs cc ss Q (F0 m 648 ls [.int j188]) := by
                intro j188 s189 hf H locs ls hS hl
                rw [hJ190] at hf
                refine lv_istore (lv' := [(11, .int j188), (0, .ref ab), (1, .ref (o + 0)), (2, .ref (o + 302)), (3, .ref (o + 303)), (4, .ref (o + 304)), (5, .ref (o + 305)), (6, .ref (o + 306)), (7, .int e7)]) hx hb dL_law_648 hl (by decide) rfl (fun ls hl => ?_)
                refine lv_goto (tgt := 1248) hx hb dL_law_650 (by decide) ?_
                refine W.widen (k := (cc + 1)) (n := (ss + 10)) (by omega) (by omega) ?_
                exact wJ6 j188 s189 hf _ _ _ hS (lv_sub hl [1, 2, 3, 4, 5, 6, 7, 8, 0] rfl)
              clear hJ190
              refine lv_icmp_ne (tgt := 647) hx hb dL_law_640 (by decide) (fun c191 => ?_) (fun c191 => ?_)
              · have hf := gIf_f c191 hf
                refine lv_iconst (v := 0) hx hb dL_law_647 (by decide) ?_
                exact wJ190 0 s186 hf _ _ _ hS (lv_sub hl [0, 1, 2, 3, 4, 5, 6, 7] rfl)
              · have hf := gIf_t c191 hf
                refine lv_iconst (v := 1) hx hb dL_law_643 (by decide) ?_
                refine lv_goto (tgt := 648) hx hb dL_law_644 (by decide) ?_
                exact wJ190 1 s186 hf _ _ _ hS (lv_sub hl [0, 1, 2, 3, 4, 5, 6, 7] rfl)
            clear hJ187
            refine lv_if_eq (tgt := 636) hx hb dL_law_629 (by decide) (fun c192 => ?_) (fun c192 => ?_)
            · have hf := gIf_t c192 hf
              refine lv_aload hx hb dL_law_636 (lv_at hl 6 rfl) ?_
              refine lv_iconst (v := 4) hx hb dL_law_638 (by decide) ?_
              refine h_iald (cx := 306) (j := 4) K hS (eLL_306 G o) (by decide) (by decide) (by decide) dL_law_639 ?_
              exact wJ187 q182.1 (s183 306 4) s183 hf _ _ _ hS (lv_sub hl [0, 1, 2, 3, 4, 5, 6, 7] rfl)
            · have hf := gIf_f c192 hf
              refine lv_iconst (v := (-1)) hx hb dL_law_632 (by decide) ?_
              refine lv_goto (tgt := 640) hx hb dL_law_633 (by decide) ?_
              exact wJ187 q182.1 (-1) s183 hf _ _ _ hS (lv_sub hl [0, 1, 2, 3, 4, 5, 6, 7] rfl)
          clear hJ181
          refine lv_if_ne (tgt := 621) hx hb dL_law_484 (by decide) (fun c193 => ?_) (fun c193 => ?_)
          · have hf := gIf_f c193 hf
            exact wJ181  s178 hf _ _ _ hS (lv_sub hl [1, 2, 3, 4, 5, 6, 7, 8, 9, 0] rfl)
          · have hf := gIf_t c193 hf
            refine lv_aload hx hb dL_law_487 (lv_at hl 7 rfl) ?_
            refine lv_iconst (v := 4) hx hb dL_law_489 (by decide) ?_
            refine lv_dup2_11 hx hb dL_law_490 rfl rfl ?_
            refine h_iald (cx := 306) (j := 4) K hS (eLL_306 G o) (by decide) (by decide) (by decide) dL_law_491 ?_
            refine lv_iconst (v := 1) hx hb dL_law_492 (by decide) ?_
            refine lv_isub hx hb dL_law_493 ?_
            obtain ⟨s194, hs194, hf⟩ := gLet_some hf
            refine h_iast (cx := 306) (j := 4) K hS (eLL_306 G o) (by decide) (by decide) (by decide) dL_law_494 (fun H locs hS => ?_)
            rw [← hs194] at hS
            refine lv_iload hx hb dL_law_495 (lv_at hl 9 rfl) ?_
            refine lv_istore (lv' := [(14, .int q176.1), (13, .int j177), (0, .ref ab), (1, .ref (o + 0)), (2, .ref (o + 302)), (3, .ref (o + 303)), (4, .ref (o + 304)), (5, .ref (o + 305)), (6, .ref (o + 306)), (7, .int e7), (12, .int q176.1)]) hx hb dL_law_497 hl (by decide) rfl (fun ls hl => ?_)
            refine w_L_law_L499 Lx xs ab hfr hlo hcc hss e7 q176.1 j177 _ K ?_ gFu q176.1 s194 hf _ _ _ hS (lv_sub hl [2, 3, 4, 5, 6, 7, 8, 9, 10, 1, 0] rfl)
            · intro  s202 hf H locs ls hS hl
              refine lv_iconst (v := 4) hx hb dL_law_534 (by decide) ?_
              refine lv_istore (lv' := [(14, .int 4), (0, .ref ab), (1, .ref (o + 0)), (2, .ref (o + 302)), (3, .ref (o + 303)), (4, .ref (o + 304)), (5, .ref (o + 305)), (6, .ref (o + 306)), (7, .int e7), (12, .int q176.1), (13, .int j177)]) hx hb dL_law_535 hl (by decide) rfl (fun ls hl => ?_)
              refine w_L_law_L537 Lx xs ab hfr hlo hcc hss e7 q176.1 j177 _ K ?_ gFu 4 s202 hf _ _ _ hS (lv_sub hl [1, 2, 3, 4, 5, 6, 7, 8, 9, 10, 0] rfl)
              · intro  s215 hf H locs ls hS hl
                exact wJ181  s215 hf _ _ _ hS (lv_sub hl [0, 1, 2, 3, 4, 5, 6, 7, 8, 9] rfl)
        clear hJ179
        refine lv_icmp_ne (tgt := 479) hx hb dL_law_472 (by decide) (fun c217 => ?_) (fun c217 => ?_)
        · have hf := gIf_f c217 hf
          refine lv_iconst (v := 0) hx hb dL_law_479 (by decide) ?_
          exact wJ179 0 q176.2 hf _ _ _ hS (lv_sub hl [1, 2, 3, 4, 5, 6, 7, 8, 0] rfl)
        · have hf := gIf_t c217 hf
          refine lv_iconst (v := 1) hx hb dL_law_475 (by decide) ?_
          refine lv_goto (tgt := 480) hx hb dL_law_476 (by decide) ?_
          exact wJ179 1 q176.2 hf _ _ _ hS (lv_sub hl [1, 2, 3, 4, 5, 6, 7, 8, 0] rfl)
    clear hJ32
    refine lv_icmp_ne (tgt := 443) hx hb dL_law_335 (by decide) (fun c218 => ?_) (fun c218 => ?_)
    · have hf := gIf_f c218 hf
      exact wJ32  s29 hf _ _ _ hS (lv_sub hl [0, 1, 2, 3, 4, 5, 6, 7, 8, 9, 10] rfl)
    · have hf := gIf_t c218 hf
      refine lv_aload hx hb dL_law_338 (lv_at hl 6 rfl) ?_
      refine lv_iconst (v := 5) hx hb dL_law_340 (by decide) ?_
      refine h_iald (cx := 306) (j := 5) K hS (eLL_306 G o) (by decide) (by decide) (by decide) dL_law_341 ?_
      refine lv_iconst (v := 5) hx hb dL_law_342 (by decide) ?_
      refine lv_icmp_ge (tgt := 443) hx hb dL_law_343 (by decide) (fun c219 => ?_) (fun c219 => ?_)
      · have hf := gIf_t c219 hf
        exact wJ32  s29 hf _ _ _ hS (lv_sub hl [0, 1, 2, 3, 4, 5, 6, 7, 8, 9, 10] rfl)
      · have hf := gIf_f c219 hf
        refine lv_aload hx hb dL_law_346 (lv_at hl 6 rfl) ?_
        refine lv_iconst (v := 5) hx hb dL_law_348 (by decide) ?_
        refine h_iald (cx := 306) (j := 5) K hS (eLL_306 G o) (by decide) (by decide) (by decide) dL_law_349 ?_
        obtain ⟨x220, hx220, hf⟩ := gLet_some hf
        refine g_top hx220 ?_
        refine lv_istore (lv' := [(12, .int x220), (0, .ref ab), (1, .ref (o + 0)), (2, .ref (o + 302)), (3, .ref (o + 303)), (4, .ref (o + 304)), (5, .ref (o + 305)), (6, .ref (o + 306)), (7, .int e7), (8, .int q1.1), (9, .int q2.1), (10, .int q3.1)]) hx hb dL_law_350 hl (by decide) rfl (fun ls hl => ?_)
        refine lv_aload hx hb dL_law_352 (lv_at hl 6 rfl) ?_
        refine lv_iload hx hb dL_law_354 (lv_at hl 0 rfl) ?_
        refine lv_iload hx hb dL_law_356 (lv_at hl 9 rfl) ?_
        refine lv_bipush (v := 7) hx hb dL_law_358 (by decide) ?_
        refine lv_ishr hx hb dL_law_360 ?_
        refine lv_bipush (v := 10) hx hb dL_law_361 (by decide) ?_
        obtain ⟨q221, hq221, hf⟩ := Option.bind_eq_some_iff.mp hf
        refine h_Si0 (X' := []) (As := [.int (q1.1 >>> (7 &&& 31)), .int 10]) K hS lS_L_117 (by simp) (c_L_low (q1.1 >>> (7 &&& 31)) 10 s29 q221 hq221) rfl rfl (Nat.le_of_ble_eq_true rfl) ⟨rfl, rfl⟩ ⟨Nat.le_trans (Nat.le_of_ble_eq_true rfl) hfr, Nat.le_trans (Nat.le_of_ble_eq_true rfl) hlo⟩ hl.1 ⟨by omega, by omega⟩ dL_law_363 (fun H locs hS => ?_)
        obtain ⟨h240, hf⟩ := gGd_some hf
        obtain ⟨s222, hs222, hf⟩ := gLet_some hf
        refine h_iast (cx := 305) K hS (eLL_305 G o) (by decide) h240 rfl dL_law_366 (fun H locs hS => ?_)
        rw [← hs222] at hS
        refine lv_aload hx hb dL_law_367 (lv_at hl 6 rfl) ?_
        refine lv_iconst (v := 5) hx hb dL_law_369 (by decide) ?_
        refine lv_iload hx hb dL_law_370 (lv_at hl 0 rfl) ?_
        refine lv_iadd hx hb dL_law_372 ?_
        refine lv_iconst (v := 1) hx hb dL_law_373 (by decide) ?_
        refine lv_iload hx hb dL_law_374 (lv_at hl 9 rfl) ?_
        refine lv_bipush (v := 11) hx hb dL_law_376 (by decide) ?_
        refine lv_ishr hx hb dL_law_378 ?_
        refine lv_bipush (v := 9) hx hb dL_law_379 (by decide) ?_
        obtain ⟨q223, hq223, hf⟩ := Option.bind_eq_some_iff.mp hf
        refine h_Si0 (X' := []) (As := [.int (q1.1 >>> (11 &&& 31)), .int 9]) K hS lS_L_117 (by simp) (c_L_low (q1.1 >>> (11 &&& 31)) 9 s222 q223 hq223) rfl rfl (Nat.le_of_ble_eq_true rfl) ⟨rfl, rfl⟩ ⟨Nat.le_trans (Nat.le_of_ble_eq_true rfl) hfr, Nat.le_trans (Nat.le_of_ble_eq_true rfl) hlo⟩ hl.1 ⟨by omega, by omega⟩ dL_law_381 (fun H locs hS => ?_)
        refine lv_iadd hx hb dL_law_384 ?_
        obtain ⟨h239, hf⟩ := gGd_some hf
        obtain ⟨s224, hs224, hf⟩ := gLet_some hf
        refine h_iast (cx := 305) K hS (eLL_305 G o) (by decide) h239 rfl dL_law_385 (fun H locs hS => ?_)
        rw [← hs224] at hS
        refine lv_aload hx hb dL_law_386 (lv_at hl 6 rfl) ?_
        refine lv_bipush (v := 10) hx hb dL_law_388 (by decide) ?_
        refine lv_iload hx hb dL_law_390 (lv_at hl 0 rfl) ?_
        refine lv_iadd hx hb dL_law_392 ?_
        refine lv_iconst (v := 0) hx hb dL_law_393 (by decide) ?_
        obtain ⟨h238, hf⟩ := gGd_some hf
        obtain ⟨s225, hs225, hf⟩ := gLet_some hf
        refine h_iast (cx := 305) K hS (eLL_305 G o) (by decide) h238 rfl dL_law_394 (fun H locs hS => ?_)
        rw [← hs225] at hS
        refine lv_aload hx hb dL_law_395 (lv_at hl 6 rfl) ?_
        refine lv_bipush (v := 15) hx hb dL_law_397 (by decide) ?_
        refine lv_iload hx hb dL_law_399 (lv_at hl 0 rfl) ?_
        refine lv_iadd hx hb dL_law_401 ?_
        refine lv_iconst (v := 0) hx hb dL_law_402 (by decide) ?_
        obtain ⟨h237, hf⟩ := gGd_some hf
        obtain ⟨s226, hs226, hf⟩ := gLet_some hf
        refine h_iast (cx := 305) K hS (eLL_305 G o) (by decide) h237 rfl dL_law_403 (fun H locs hS => ?_)
        rw [← hs226] at hS
        refine lv_aload hx hb dL_law_404 (lv_at hl 7 rfl) ?_
        refine lv_iconst (v := 5) hx hb dL_law_406 (by decide) ?_
        refine lv_dup2_11 hx hb dL_law_407 rfl rfl ?_
        refine h_iald (cx := 306) (j := 5) K hS (eLL_306 G o) (by decide) (by decide) (by decide) dL_law_408 ?_
        refine lv_iconst (v := 1) hx hb dL_law_409 (by decide) ?_
        refine lv_iadd hx hb dL_law_410 ?_
        obtain ⟨s227, hs227, hf⟩ := gLet_some hf
        refine h_iast (cx := 306) (j := 5) K hS (eLL_306 G o) (by decide) (by decide) (by decide) dL_law_411 (fun H locs hS => ?_)
        rw [← hs227] at hS
        refine lv_aload_n hx hb dL_law_412 rfl (lv_at hl 2 rfl) ?_
        refine lv_aload hx hb dL_law_413 (lv_at hl 6 rfl) ?_
        refine lv_iload hx hb dL_law_415 (lv_at hl 0 rfl) ?_
        obtain ⟨h228, hf⟩ := gGd_some hf
        refine h_iald (cx := 305) K hS (eLL_305 G o) (by decide) h228 rfl dL_law_417 ?_
        refine lv_aload hx hb dL_law_418 (lv_at hl 6 rfl) ?_
        refine lv_iconst (v := 5) hx hb dL_law_420 (by decide) ?_
        refine lv_iload hx hb dL_law_421 (lv_at hl 0 rfl) ?_
        refine lv_iadd hx hb dL_law_423 ?_
        obtain ⟨h229, hf⟩ := gGd_some hf
        refine h_iald (cx := 305) K hS (eLL_305 G o) (by decide) h229 rfl dL_law_424 ?_
        obtain ⟨q230, hq230, hf⟩ := Option.bind_eq_some_iff.mp hf
        obtain ⟨s231, hs231, hf⟩ := gLet_some hf
        refine h_Vi (As := [.int (s227 305 (gil x220)), .int (s227 305 (gil (5 + x220)))]) K hS lV_L_124 (c_X10_sleeper (s227 305 (gil x220)) (s227 305 (gil (5 + x220))) s227 q230 hq230) rfl rfl (Nat.le_of_ble_eq_true rfl) ⟨⟨Nat.le_trans (Nat.le_of_ble_eq_true rfl) hfr, Nat.le_trans (Nat.le_of_ble_eq_true rfl) hlo⟩, rfl, rfl⟩ hl.1 ⟨by omega, by omega⟩ dL_law_425 (fun H locs hS => ?_)
        rw [← hs231] at hS
        refine lv_iload hx hb dL_law_428 (lv_at hl 0 rfl) ?_
        obtain ⟨J234, hJ234, hf⟩ := gLet_some hf
        have wJ234 : ∀ (j232 : Int32) (s233 : gS), J234 j232 s233 = some q → ∀ (H : Heap) (locs : List Loc) (ls : Array Slot), hSt G o [(ab, Lx, xs)] s s233 H locs → lv_has ls 18 [(0, .ref ab), (1, .ref (o + 0)), (2, .ref (o + 302)), (3, .ref (o + 303)), (4, .ref (o + 304)), (5, .ref (o + 305)), (6, .ref (o + 306)), (7, .int e7)] → W p l e R s m args below meth c H locs cc ss Q (F0 m 438 ls [.int j232]) := by
          intro j232 s233 hf H locs ls hS hl
          rw [hJ234] at hf
          refine lv_istore (lv' := [(11, .int j232), (0, .ref ab), (1, .ref (o + 0)), (2, .ref (o + 302)), (3, .ref (o + 303)), (4, .ref (o + 304)), (5, .ref (o + 305)), (6, .ref (o + 306)), (7, .int e7)]) hx hb dL_law_438 hl (by decide) rfl (fun ls hl => ?_)
          refine lv_goto (tgt := 1248) hx hb dL_law_440 (by decide) ?_
          refine W.widen (k := (cc + 1)) (n := (ss + 10)) (by omega) (by omega) ?_
          exact wJ6 j232 s233 hf _ _ _ hS (lv_sub hl [1, 2, 3, 4, 5, 6, 7, 8, 0] rfl)
        clear hJ234
        refine lv_icmp_ne (tgt := 437) hx hb dL_law_430 (by decide) (fun c235 => ?_) (fun c235 => ?_)
        · have hf := gIf_f c235 hf
          refine lv_iconst (v := 0) hx hb dL_law_437 (by decide) ?_
          exact wJ234 0 s231 hf _ _ _ hS (lv_sub hl [1, 2, 3, 4, 5, 6, 7, 8] rfl)
        · have hf := gIf_t c235 hf
          refine lv_iconst (v := 1) hx hb dL_law_433 (by decide) ?_
          refine lv_goto (tgt := 438) hx hb dL_law_434 (by decide) ?_
          exact wJ234 1 s231 hf _ _ _ hS (lv_sub hl [1, 2, 3, 4, 5, 6, 7, 8] rfl)
  clear hJ30
  obtain ⟨J242, hJ242, hf⟩ := gLet_some hf
  have wJ242 : ∀  (s241 : gS), J242  s241 = some q → ∀ (H : Heap) (locs : List Loc) (ls : Array Slot), hSt G o [(ab, Lx, xs)] s s241 H locs → lv_has ls 18 [(0, .ref ab), (1, .ref (o + 0)), (2, .ref (o + 302)), (3, .ref (o + 303)), (4, .ref (o + 304)), (5, .ref (o + 305)), (6, .ref (o + 306)), (7, .int e7), (8, .int q1.1), (9, .int q2.1), (10, .int q3.1)] → W p l e R s m args below meth c H locs cc ss Q (F0 m 102 ls []) := by
    intro  s241 hf H locs ls hS hl
    rw [hJ242] at hf
    refine lv_aload hx hb dL_law_102 (lv_at hl 6 rfl) ?_
    refine lv_iconst (v := 4) hx hb dL_law_104 (by decide) ?_
    refine h_iald (cx := 306) (j := 4) K hS (eLL_306 G o) (by decide) (by decide) (by decide) dL_law_105 ?_
    refine lv_bipush (v := 20) hx hb dL_law_106 (by decide) ?_
    refine lv_icmp_ge (tgt := 332) hx hb dL_law_108 (by decide) (fun c243 => ?_) (fun c243 => ?_)
    · have hf := gIf_t c243 hf
      exact wJ30  s241 hf _ _ _ hS (lv_sub hl [0, 1, 2, 3, 4, 5, 6, 7, 8, 9, 10] rfl)
    · have hf := gIf_f c243 hf
      refine lv_iload hx hb dL_law_111 (lv_at hl 8 rfl) ?_
      refine lv_bipush (v := 7) hx hb dL_law_113 (by decide) ?_
      refine lv_ishr hx hb dL_law_115 ?_
      refine lv_iload hx hb dL_law_116 (lv_at hl 8 rfl) ?_
      refine lv_bipush (v := 25) hx hb dL_law_118 (by decide) ?_
      refine lv_ishr hx hb dL_law_120 ?_
      refine lv_iconst (v := 2) hx hb dL_law_121 (by decide) ?_
      obtain ⟨q244, hq244, hf⟩ := Option.bind_eq_some_iff.mp hf
      refine h_Si0 (X' := []) (As := [.int (q1.1 >>> (25 &&& 31)), .int 2]) K hS lS_L_117 (by simp) (c_L_low (q1.1 >>> (25 &&& 31)) 2 s241 q244 hq244) rfl rfl (Nat.le_of_ble_eq_true rfl) ⟨rfl, rfl⟩ ⟨Nat.le_trans (Nat.le_of_ble_eq_true rfl) hfr, Nat.le_trans (Nat.le_of_ble_eq_true rfl) hlo⟩ hl.1 ⟨by omega, by omega⟩ dL_law_122 (fun H locs hS => ?_)
      obtain ⟨J248, hJ248, hf⟩ := gLet_some hf
      have wJ248 : ∀ (j245 : Int32) (j246 : Int32) (s247 : gS), J248 j245 j246 s247 = some q → ∀ (H : Heap) (locs : List Loc) (ls : Array Slot), hSt G o [(ab, Lx, xs)] s s247 H locs → lv_has ls 18 [(0, .ref ab), (1, .ref (o + 0)), (2, .ref (o + 302)), (3, .ref (o + 303)), (4, .ref (o + 304)), (5, .ref (o + 305)), (6, .ref (o + 306)), (7, .int e7), (8, .int q1.1)] → W p l e R s m args below meth c H locs cc ss Q (F0 m 134 ls [.int j246, .int j245]) := by
        intro j245 j246 s247 hf H locs ls hS hl
        rw [hJ248] at hf
        obtain ⟨q249, hq249, hf⟩ := Option.bind_eq_some_iff.mp hf
        refine h_Si0 (X' := []) (As := [.int j245, .int j246]) K hS lS_L_117 (by simp) (c_L_low j245 j246 s247 q249 hq249) rfl rfl (Nat.le_of_ble_eq_true rfl) ⟨rfl, rfl⟩ ⟨Nat.le_trans (Nat.le_of_ble_eq_true rfl) hfr, Nat.le_trans (Nat.le_of_ble_eq_true rfl) hlo⟩ hl.1 ⟨by omega, by omega⟩ dL_law_134 (fun H locs hS => ?_)
        refine lv_istore (lv' := [(12, .int q249.1), (0, .ref ab), (1, .ref (o + 0)), (2, .ref (o + 302)), (3, .ref (o + 303)), (4, .ref (o + 304)), (5, .ref (o + 305)), (6, .ref (o + 306)), (7, .int e7), (8, .int q1.1)]) hx hb dL_law_137 hl (by decide) rfl (fun ls hl => ?_)
        refine lv_iload hx hb dL_law_139 (lv_at hl 9 rfl) ?_
        refine lv_bipush (v := 11) hx hb dL_law_141 (by decide) ?_
        refine lv_ishr hx hb dL_law_143 ?_
        refine lv_iload hx hb dL_law_144 (lv_at hl 9 rfl) ?_
        refine lv_bipush (v := 25) hx hb dL_law_146 (by decide) ?_
        refine lv_ishr hx hb dL_law_148 ?_
        refine lv_iconst (v := 2) hx hb dL_law_149 (by decide) ?_
        obtain ⟨q250, hq250, hf⟩ := Option.bind_eq_some_iff.mp hf
        refine h_Si0 (X' := []) (As := [.int (q1.1 >>> (25 &&& 31)), .int 2]) K hS lS_L_117 (by simp) (c_L_low (q1.1 >>> (25 &&& 31)) 2 q249.2 q250 hq250) rfl rfl (Nat.le_of_ble_eq_true rfl) ⟨rfl, rfl⟩ ⟨Nat.le_trans (Nat.le_of_ble_eq_true rfl) hfr, Nat.le_trans (Nat.le_of_ble_eq_true rfl) hlo⟩ hl.1 ⟨by omega, by omega⟩ dL_law_150 (fun H locs hS => ?_)
        obtain ⟨J254, hJ254, hf⟩ := gLet_some hf
        have wJ254 : ∀ (j251 : Int32) (j252 : Int32) (s253 : gS), J254 j251 j252 s253 = some q → ∀ (H : Heap) (locs : List Loc) (ls : Array Slot), hSt G o [(ab, Lx, xs)] s s253 H locs → lv_has ls 18 [(0, .ref ab), (1, .ref (o + 0)), (2, .ref (o + 302)), (3, .ref (o + 303)), (4, .ref (o + 304)), (5, .ref (o + 305)), (6, .ref (o + 306)), (7, .int e7), (8, .int q1.1), (12, .int q249.1)] → W p l e R s m args below meth c H locs cc ss Q (F0 m 162 ls [.int j252, .int j251]) := by
          intro j251 j252 s253 hf H locs ls hS hl
          rw [hJ254] at hf
          obtain ⟨q255, hq255, hf⟩ := Option.bind_eq_some_iff.mp hf
          refine h_Si0 (X' := []) (As := [.int j251, .int j252]) K hS lS_L_117 (by simp) (c_L_low j251 j252 s253 q255 hq255) rfl rfl (Nat.le_of_ble_eq_true rfl) ⟨rfl, rfl⟩ ⟨Nat.le_trans (Nat.le_of_ble_eq_true rfl) hfr, Nat.le_trans (Nat.le_of_ble_eq_true rfl) hlo⟩ hl.1 ⟨by omega, by omega⟩ dL_law_162 (fun H locs hS => ?_)
          refine lv_istore (lv' := [(13, .int q255.1), (0, .ref ab), (1, .ref (o + 0)), (2, .ref (o + 302)), (3, .ref (o + 303)), (4, .ref (o + 304)), (5, .ref (o + 305)), (6, .ref (o + 306)), (7, .int e7), (8, .int q1.1), (12, .int q249.1)]) hx hb dL_law_165 hl (by decide) rfl (fun ls hl => ?_)
          refine lv_iload hx hb dL_law_167 (lv_at hl 10 rfl) ?_
          refine lv_iload hx hb dL_law_169 (lv_at hl 0 rfl) ?_
          obtain ⟨J258, hJ258, hf⟩ := gLet_some hf
          have wJ258 : ∀ (j256 : Int32) (s257 : gS), J258 j256 s257 = some q → ∀ (H : Heap) (locs : List Loc) (ls : Array Slot), hSt G o [(ab, Lx, xs)] s s257 H locs → lv_has ls 18 [(0, .ref ab), (1, .ref (o + 0)), (2, .ref (o + 302)), (3, .ref (o + 303)), (4, .ref (o + 304)), (5, .ref (o + 305)), (6, .ref (o + 306)), (7, .int e7), (8, .int q1.1), (12, .int q249.1), (13, .int q255.1)] → W p l e R s m args below meth c H locs cc ss Q (F0 m 179 ls [.int j256]) := by
            intro j256 s257 hf H locs ls hS hl
            rw [hJ258] at hf
            refine lv_istore (lv' := [(14, .int j256), (0, .ref ab), (1, .ref (o + 0)), (2, .ref (o + 302)), (3, .ref (o + 303)), (4, .ref (o + 304)), (5, .ref (o + 305)), (6, .ref (o + 306)), (7, .int e7), (8, .int q1.1), (12, .int q249.1), (13, .int q255.1)]) hx hb dL_law_179 hl (by decide) rfl (fun ls hl => ?_)
            refine lv_aload hx hb dL_law_181 (lv_at hl 7 rfl) ?_
            refine lv_iconst (v := 4) hx hb dL_law_183 (by decide) ?_
            refine h_iald (cx := 306) (j := 4) K hS (eLL_306 G o) (by decide) (by decide) (by decide) dL_law_184 ?_
            obtain ⟨x259, hx259, hf⟩ := gLet_some hf
            refine g_top hx259 ?_
            refine lv_istore (lv' := [(15, .int x259), (14, .int j256), (0, .ref ab), (1, .ref (o + 0)), (2, .ref (o + 302)), (3, .ref (o + 303)), (4, .ref (o + 304)), (5, .ref (o + 305)), (6, .ref (o + 306)), (7, .int e7), (8, .int q1.1), (12, .int q249.1), (13, .int q255.1)]) hx hb dL_law_185 hl (by decide) rfl (fun ls hl => ?_)
            refine lv_iload hx hb dL_law_187 (lv_at hl 1 rfl) ?_
            obtain ⟨J261, hJ261, hf⟩ := gLet_some hf
            have wJ261 : ∀  (s260 : gS), J261  s260 = some q → ∀ (H : Heap) (locs : List Loc) (ls : Array Slot), hSt G o [(ab, Lx, xs)] s s260 H locs → lv_has ls 18 [(0, .ref ab), (1, .ref (o + 0)), (2, .ref (o + 302)), (3, .ref (o + 303)), (4, .ref (o + 304)), (5, .ref (o + 305)), (6, .ref (o + 306)), (7, .int e7), (8, .int q1.1), (12, .int q249.1), (13, .int q255.1), (14, .int j256), (15, .int x259)] → W p l e R s m args below meth c H locs cc ss Q (F0 m 275 ls []) := by
              intro  s260 hf H locs ls hS hl
              rw [hJ261] at hf
              refine lv_aload_n hx hb dL_law_275 rfl (lv_at hl 1 rfl) ?_
              refine lv_iload hx hb dL_law_276 (lv_at hl 9 rfl) ?_
              refine lv_iload hx hb dL_law_278 (lv_at hl 10 rfl) ?_
              refine lv_iconst (v := 1) hx hb dL_law_280 (by decide) ?_
              refine lv_iload hx hb dL_law_281 (lv_at hl 8 rfl) ?_
              refine lv_bipush (v := 15) hx hb dL_law_283 (by decide) ?_
              refine lv_ishr hx hb dL_law_285 ?_
              refine lv_bipush (v := 9) hx hb dL_law_286 (by decide) ?_
              obtain ⟨q262, hq262, hf⟩ := Option.bind_eq_some_iff.mp hf
              refine h_Si0 (X' := []) (As := [.int (q1.1 >>> (15 &&& 31)), .int 9]) K hS lS_L_117 (by simp) (c_L_low (q1.1 >>> (15 &&& 31)) 9 s260 q262 hq262) rfl rfl (Nat.le_of_ble_eq_true rfl) ⟨rfl, rfl⟩ ⟨Nat.le_trans (Nat.le_of_ble_eq_true rfl) hfr, Nat.le_trans (Nat.le_of_ble_eq_true rfl) hlo⟩ hl.1 ⟨by omega, by omega⟩ dL_law_288 (fun H locs hS => ?_)
              refine lv_iadd hx hb dL_law_291 ?_
              refine lv_iconst (v := 1) hx hb dL_law_292 (by decide) ?_
              refine lv_iload hx hb dL_law_293 (lv_at hl 8 rfl) ?_
              refine lv_bipush (v := 18) hx hb dL_law_295 (by decide) ?_
              refine lv_ishr hx hb dL_law_297 ?_
              refine lv_bipush (v := 9) hx hb dL_law_298 (by decide) ?_
              obtain ⟨q263, hq263, hf⟩ := Option.bind_eq_some_iff.mp hf
              refine h_Si0 (X' := []) (As := [.int (q1.1 >>> (18 &&& 31)), .int 9]) K hS lS_L_117 (by simp) (c_L_low (q1.1 >>> (18 &&& 31)) 9 q262.2 q263 hq263) rfl rfl (Nat.le_of_ble_eq_true rfl) ⟨rfl, rfl⟩ ⟨Nat.le_trans (Nat.le_of_ble_eq_true rfl) hfr, Nat.le_trans (Nat.le_of_ble_eq_true rfl) hlo⟩ hl.1 ⟨by omega, by omega⟩ dL_law_300 (fun H locs hS => ?_)
              refine lv_iadd hx hb dL_law_303 ?_
              obtain ⟨q264, hq264, hf⟩ := Option.bind_eq_some_iff.mp hf
              obtain ⟨s265, hs265, hf⟩ := gLet_some hf
              refine h_Vi (As := [.int q249.1, .int q255.1, .int (1 + q262.1), .int (1 + q263.1)]) K hS lV_L_120 (c_X10_lay q249.1 q255.1 (1 + q262.1) (1 + q263.1) q263.2 q264 hq264) rfl rfl (Nat.le_of_ble_eq_true rfl) ⟨⟨Nat.le_trans (Nat.le_of_ble_eq_true rfl) hfr, Nat.le_trans (Nat.le_of_ble_eq_true rfl) hlo⟩, rfl, rfl⟩ hl.1 ⟨by omega, by omega⟩ dL_law_304 (fun H locs hS => ?_)
              rw [← hs265] at hS
              refine lv_iload hx hb dL_law_307 (lv_at hl 11 rfl) ?_
              obtain ⟨J269, hJ269, hf⟩ := gLet_some hf
              have wJ269 : ∀ (j266 : Int32) (j267 : Int32) (s268 : gS), J269 j266 j267 s268 = some q → ∀ (H : Heap) (locs : List Loc) (ls : Array Slot), hSt G o [(ab, Lx, xs)] s s268 H locs → lv_has ls 18 [(0, .ref ab), (1, .ref (o + 0)), (2, .ref (o + 302)), (3, .ref (o + 303)), (4, .ref (o + 304)), (5, .ref (o + 305)), (6, .ref (o + 306)), (7, .int e7)] → W p l e R s m args below meth c H locs cc ss Q (F0 m 319 ls [.int j267, .int j266]) := by
                intro j266 j267 s268 hf H locs ls hS hl
                rw [hJ269] at hf
                obtain ⟨J272, hJ272, hf⟩ := gLet_some hf
                have wJ272 : ∀ (j270 : Int32) (s271 : gS), J272 j270 s271 = some q → ∀ (H : Heap) (locs : List Loc) (ls : Array Slot), hSt G o [(ab, Lx, xs)] s s271 H locs → lv_has ls 18 [(0, .ref ab), (1, .ref (o + 0)), (2, .ref (o + 302)), (3, .ref (o + 303)), (4, .ref (o + 304)), (5, .ref (o + 305)), (6, .ref (o + 306)), (7, .int e7)] → W p l e R s m args below meth c H locs cc ss Q (F0 m 327 ls [.int j270]) := by
                  intro j270 s271 hf H locs ls hS hl
                  rw [hJ272] at hf
                  refine lv_istore (lv' := [(11, .int j270), (0, .ref ab), (1, .ref (o + 0)), (2, .ref (o + 302)), (3, .ref (o + 303)), (4, .ref (o + 304)), (5, .ref (o + 305)), (6, .ref (o + 306)), (7, .int e7)]) hx hb dL_law_327 hl (by decide) rfl (fun ls hl => ?_)
                  refine lv_goto (tgt := 1248) hx hb dL_law_329 (by decide) ?_
                  refine W.widen (k := (cc + 1)) (n := (ss + 10)) (by omega) (by omega) ?_
                  exact wJ6 j270 s271 hf _ _ _ hS (lv_sub hl [1, 2, 3, 4, 5, 6, 7, 8, 0] rfl)
                clear hJ272
                refine lv_icmp_ne (tgt := 326) hx hb dL_law_319 (by decide) (fun c273 => ?_) (fun c273 => ?_)
                · have hf := gIf_f c273 hf
                  refine lv_iconst (v := 0) hx hb dL_law_326 (by decide) ?_
                  exact wJ272 0 s268 hf _ _ _ hS (lv_sub hl [0, 1, 2, 3, 4, 5, 6, 7] rfl)
                · have hf := gIf_t c273 hf
                  refine lv_iconst (v := 1) hx hb dL_law_322 (by decide) ?_
                  refine lv_goto (tgt := 327) hx hb dL_law_323 (by decide) ?_
                  exact wJ272 1 s268 hf _ _ _ hS (lv_sub hl [0, 1, 2, 3, 4, 5, 6, 7] rfl)
              clear hJ269
              refine lv_if_eq (tgt := 317) hx hb dL_law_309 (by decide) (fun c274 => ?_) (fun c274 => ?_)
              · have hf := gIf_t c274 hf
                refine lv_iload hx hb dL_law_317 (lv_at hl 12 rfl) ?_
                exact wJ269 q264.1 x259 s265 hf _ _ _ hS (lv_sub hl [0, 1, 2, 3, 4, 5, 6, 7] rfl)
              · have hf := gIf_f c274 hf
                refine lv_bipush (v := (-2)) hx hb dL_law_312 (by decide) ?_
                refine lv_goto (tgt := 319) hx hb dL_law_314 (by decide) ?_
                exact wJ269 q264.1 (-2) s265 hf _ _ _ hS (lv_sub hl [0, 1, 2, 3, 4, 5, 6, 7] rfl)
            clear hJ261
            refine lv_if_ne (tgt := 275) hx hb dL_law_189 (by decide) (fun c275 => ?_) (fun c275 => ?_)
            · have hf := gIf_f c275 hf
              exact wJ261  s257 hf _ _ _ hS (lv_sub hl [2, 3, 4, 5, 6, 7, 8, 9, 10, 11, 12, 1, 0] rfl)
            · have hf := gIf_t c275 hf
              refine lv_aload_n hx hb dL_law_192 rfl (lv_at hl 4 rfl) ?_
              refine lv_iload hx hb dL_law_193 (lv_at hl 0 rfl) ?_
              refine lv_iload hx hb dL_law_195 (lv_at hl 11 rfl) ?_
              refine lv_iload hx hb dL_law_197 (lv_at hl 12 rfl) ?_
              obtain ⟨J279, hJ279, hf⟩ := gLet_some hf
              have wJ279 : ∀ (j276 : Int32) (j277 : Int32) (s278 : gS), J279 j276 j277 s278 = some q → ∀ (H : Heap) (locs : List Loc) (ls : Array Slot), hSt G o [(ab, Lx, xs)] s s278 H locs → lv_has ls 18 [(0, .ref ab), (1, .ref (o + 0)), (2, .ref (o + 302)), (3, .ref (o + 303)), (4, .ref (o + 304)), (5, .ref (o + 305)), (6, .ref (o + 306)), (7, .int e7), (8, .int q1.1), (12, .int q249.1), (13, .int q255.1), (14, .int j256), (15, .int x259)] → W p l e R s m args below meth c H locs cc ss Q (F0 m 209 ls [.int j277, .int j276, .ref (o + 302)]) := by
                intro j276 j277 s278 hf H locs ls hS hl
                rw [hJ279] at hf
                refine lv_bipush (v := 16) hx hb dL_law_209 (by decide) ?_
                refine lv_iload hx hb dL_law_211 (lv_at hl 9 rfl) ?_
                refine lv_iload hx hb dL_law_213 (lv_at hl 10 rfl) ?_
                obtain ⟨J285, hJ285, hf⟩ := gLet_some hf
                have wJ285 : ∀ (j280 : Int32) (j281 : Int32) (j282 : Int32) (j283 : Int32) (s284 : gS), J285 j280 j281 j282 j283 s284 = some q → ∀ (H : Heap) (locs : List Loc) (ls : Array Slot), hSt G o [(ab, Lx, xs)] s s284 H locs → lv_has ls 18 [(0, .ref ab), (1, .ref (o + 0)), (2, .ref (o + 302)), (3, .ref (o + 303)), (4, .ref (o + 304)), (5, .ref (o + 305)), (6, .ref (o + 306)), (7, .int e7), (8, .int q1.1), (12, .int q249.1), (13, .int q255.1), (14, .int j256), (15, .int x259)] → W p l e R s m args below meth c H locs cc ss Q (F0 m 225 ls [.int j283, .int j282, .int j281, .int j280, .ref (o + 302)]) := by
                  intro j280 j281 j282 j283 s284 hf H locs ls hS hl
                  rw [hJ285] at hf
                  refine lv_imul hx hb dL_law_225 ?_
                  refine lv_iadd hx hb dL_law_226 ?_
                  refine lv_sipush (v := 256) hx hb dL_law_227 (by decide) ?_
                  refine lv_iconst (v := 1) hx hb dL_law_230 (by decide) ?_
                  refine lv_iload hx hb dL_law_231 (lv_at hl 8 rfl) ?_
                  refine lv_bipush (v := 15) hx hb dL_law_233 (by decide) ?_
                  refine lv_ishr hx hb dL_law_235 ?_
                  refine lv_bipush (v := 9) hx hb dL_law_236 (by decide) ?_
                  obtain ⟨q286, hq286, hf⟩ := Option.bind_eq_some_iff.mp hf
                  refine h_Si0 (X' := []) (As := [.int (q1.1 >>> (15 &&& 31)), .int 9]) K hS lS_L_117 (by simp) (c_L_low (q1.1 >>> (15 &&& 31)) 9 s284 q286 hq286) rfl rfl (Nat.le_of_ble_eq_true rfl) ⟨rfl, rfl⟩ ⟨Nat.le_trans (Nat.le_of_ble_eq_true rfl) hfr, Nat.le_trans (Nat.le_of_ble_eq_true rfl) hlo⟩ hl.1 ⟨by omega, by omega⟩ dL_law_238 (fun H locs hS => ?_)
                  refine lv_iadd hx hb dL_law_241 ?_
                  refine lv_imul hx hb dL_law_242 ?_
                  refine lv_iadd hx hb dL_law_243 ?_
                  refine lv_sipush (v := 4096) hx hb dL_law_244 (by decide) ?_
                  refine lv_iconst (v := 1) hx hb dL_law_247 (by decide) ?_
                  refine lv_iload hx hb dL_law_248 (lv_at hl 8 rfl) ?_
                  refine lv_bipush (v := 18) hx hb dL_law_250 (by decide) ?_
                  refine lv_ishr hx hb dL_law_252 ?_
                  refine lv_bipush (v := 9) hx hb dL_law_253 (by decide) ?_
                  obtain ⟨q287, hq287, hf⟩ := Option.bind_eq_some_iff.mp hf
                  refine h_Si0 (X' := []) (As := [.int (q1.1 >>> (18 &&& 31)), .int 9]) K hS lS_L_117 (by simp) (c_L_low (q1.1 >>> (18 &&& 31)) 9 q286.2 q287 hq287) rfl rfl (Nat.le_of_ble_eq_true rfl) ⟨rfl, rfl⟩ ⟨Nat.le_trans (Nat.le_of_ble_eq_true rfl) hfr, Nat.le_trans (Nat.le_of_ble_eq_true rfl) hlo⟩ hl.1 ⟨by omega, by omega⟩ dL_law_255 (fun H locs hS => ?_)
                  refine lv_iadd hx hb dL_law_258 ?_
                  refine lv_imul hx hb dL_law_259 ?_
                  refine lv_iadd hx hb dL_law_260 ?_
                  obtain ⟨h293, hf⟩ := gGd_some hf
                  obtain ⟨s288, hs288, hf⟩ := gLet_some hf
                  refine h_iast (cx := 302) K hS (eLL_302 G o) (by decide) h293 rfl dL_law_261 (fun H locs hS => ?_)
                  rw [← hs288] at hS
                  refine lv_aload_n hx hb dL_law_262 rfl (lv_at hl 3 rfl) ?_
                  refine lv_iload hx hb dL_law_263 (lv_at hl 12 rfl) ?_
                  refine lv_iconst (v := 0) hx hb dL_law_265 (by decide) ?_
                  obtain ⟨h292, hf⟩ := gGd_some hf
                  obtain ⟨s289, hs289, hf⟩ := gLet_some hf
                  refine h_iast (cx := 303) K hS (eLL_303 G o) (by decide) h292 rfl dL_law_266 (fun H locs hS => ?_)
                  rw [← hs289] at hS
                  refine lv_aload hx hb dL_law_267 (lv_at hl 6 rfl) ?_
                  refine lv_iconst (v := 4) hx hb dL_law_269 (by decide) ?_
                  refine lv_dup2_11 hx hb dL_law_270 rfl rfl ?_
                  refine h_iald (cx := 306) (j := 4) K hS (eLL_306 G o) (by decide) (by decide) (by decide) dL_law_271 ?_
                  refine lv_iconst (v := 1) hx hb dL_law_272 (by decide) ?_
                  refine lv_iadd hx hb dL_law_273 ?_
                  obtain ⟨s290, hs290, hf⟩ := gLet_some hf
                  refine h_iast (cx := 306) (j := 4) K hS (eLL_306 G o) (by decide) (by decide) (by decide) dL_law_274 (fun H locs hS => ?_)
                  rw [← hs290] at hS
                  exact wJ261  s290 hf _ _ _ hS (lv_sub hl [0, 1, 2, 3, 4, 5, 6, 7, 8, 9, 10, 11, 12] rfl)
                clear hJ285
                refine lv_icmp_ge (tgt := 223) hx hb dL_law_215 (by decide) (fun c294 => ?_) (fun c294 => ?_)
                · have hf := gIf_t c294 hf
                  refine lv_iload hx hb dL_law_223 (lv_at hl 9 rfl) ?_
                  exact wJ285 j276 j277 16 q249.1 s278 hf _ _ _ hS (lv_sub hl [0, 1, 2, 3, 4, 5, 6, 7, 8, 9, 10, 11, 12] rfl)
                · have hf := gIf_f c294 hf
                  refine lv_iload hx hb dL_law_218 (lv_at hl 10 rfl) ?_
                  refine lv_goto (tgt := 225) hx hb dL_law_220 (by decide) ?_
                  exact wJ285 j276 j277 16 q255.1 s278 hf _ _ _ hS (lv_sub hl [0, 1, 2, 3, 4, 5, 6, 7, 8, 9, 10, 11, 12] rfl)
              clear hJ279
              refine lv_icmp_ge (tgt := 207) hx hb dL_law_199 (by decide) (fun c295 => ?_) (fun c295 => ?_)
              · have hf := gIf_t c295 hf
                refine lv_iload hx hb dL_law_207 (lv_at hl 12 rfl) ?_
                exact wJ279 x259 q255.1 s257 hf _ _ _ hS (lv_sub hl [2, 3, 4, 5, 6, 7, 8, 9, 10, 11, 12, 1, 0] rfl)
              · have hf := gIf_f c295 hf
                refine lv_iload hx hb dL_law_202 (lv_at hl 11 rfl) ?_
                refine lv_goto (tgt := 209) hx hb dL_law_204 (by decide) ?_
                exact wJ279 x259 q249.1 s257 hf _ _ _ hS (lv_sub hl [2, 3, 4, 5, 6, 7, 8, 9, 10, 11, 12, 1, 0] rfl)
          clear hJ258
          refine lv_icmp_ne (tgt := 178) hx hb dL_law_171 (by decide) (fun c296 => ?_) (fun c296 => ?_)
          · have hf := gIf_f c296 hf
            refine lv_iconst (v := 0) hx hb dL_law_178 (by decide) ?_
            exact wJ258 0 q255.2 hf _ _ _ hS (lv_sub hl [1, 2, 3, 4, 5, 6, 7, 8, 9, 10, 0] rfl)
          · have hf := gIf_t c296 hf
            refine lv_iconst (v := 1) hx hb dL_law_174 (by decide) ?_
            refine lv_goto (tgt := 179) hx hb dL_law_175 (by decide) ?_
            exact wJ258 1 q255.2 hf _ _ _ hS (lv_sub hl [1, 2, 3, 4, 5, 6, 7, 8, 9, 10, 0] rfl)
        clear hJ254
        refine lv_if_ne (tgt := 161) hx hb dL_law_153 (by decide) (fun c297 => ?_) (fun c297 => ?_)
        · have hf := gIf_f c297 hf
          refine lv_iconst (v := 5) hx hb dL_law_161 (by decide) ?_
          exact wJ254 (q1.1 >>> (11 &&& 31)) 5 q250.2 hf _ _ _ hS (lv_sub hl [1, 2, 3, 4, 5, 6, 7, 8, 9, 0] rfl)
        · have hf := gIf_t c297 hf
          refine lv_bipush (v := 10) hx hb dL_law_156 (by decide) ?_
          refine lv_goto (tgt := 162) hx hb dL_law_158 (by decide) ?_
          exact wJ254 (q1.1 >>> (11 &&& 31)) 10 q250.2 hf _ _ _ hS (lv_sub hl [1, 2, 3, 4, 5, 6, 7, 8, 9, 0] rfl)
      clear hJ248
      refine lv_if_ne (tgt := 133) hx hb dL_law_125 (by decide) (fun c298 => ?_) (fun c298 => ?_)
      · have hf := gIf_f c298 hf
        refine lv_iconst (v := 5) hx hb dL_law_133 (by decide) ?_
        exact wJ248 (q1.1 >>> (7 &&& 31)) 5 q244.2 hf _ _ _ hS (lv_sub hl [0, 1, 2, 3, 4, 5, 6, 7, 8] rfl)
      · have hf := gIf_t c298 hf
        refine lv_bipush (v := 10) hx hb dL_law_128 (by decide) ?_
        refine lv_goto (tgt := 134) hx hb dL_law_130 (by decide) ?_
        exact wJ248 (q1.1 >>> (7 &&& 31)) 10 q244.2 hf _ _ _ hS (lv_sub hl [0, 1, 2, 3, 4, 5, 6, 7, 8] rfl)
  clear hJ242
  refine lv_icmp_lt (tgt := 102) hx hb dL_law_91 (by decide) (fun c299 => ?_) (fun c299 => ?_)
  · have hf := gIf_t c299 hf
    exact wJ242  q3.2 hf _ _ _ hS (lv_sub hl [4, 5, 6, 7, 8, 9, 10, 11, 3, 2, 1] rfl)
  · have hf := gIf_f c299 hf
    refine lv_aload hx hb dL_law_94 (lv_at hl 10 rfl) ?_
    refine lv_iconst (v := 4) hx hb dL_law_96 (by decide) ?_
    refine h_iald (cx := 306) (j := 4) K hS (eLL_306 G o) (by decide) (by decide) (by decide) dL_law_97 ?_
    refine lv_iconst (v := 4) hx hb dL_law_98 (by decide) ?_
    refine lv_icmp_ge (tgt := 332) hx hb dL_law_99 (by decide) (fun c300 => ?_) (fun c300 => ?_)
    · have hf := gIf_t c300 hf
      exact wJ30  q3.2 hf _ _ _ hS (lv_sub hl [4, 5, 6, 7, 8, 9, 10, 11, 3, 2, 1] rfl)
    · have hf := gIf_f c300 hf
      exact wJ242  q3.2 hf _ _ _ hS (lv_sub hl [4, 5, 6, 7, 8, 9, 10, 11, 3, 2, 1] rfl)
end
