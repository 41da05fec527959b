-- addresses, the memory at the start, and the list of all objects, by wip/whole/gen103.py
def zofs : List (Nat × Nat × Nat) := [(0, 0, 0), (1, 0, 0), (2, 0, 0), (3, 0, 0), (4, 0, 0), (5, 0, 0), (6, 0, 0), (7, 0, 0), (8, 0, 0), (9, 0, 0), (10, 0, 0), (11, 0, 0), (12, 0, 0), (13, 0, 0), (14, 0, 0), (15, 0, 0), (16, 0, 0), (17, 3, 0), (17, 3, 1), (17, 3, 2), (137, 0, 0), (138, 0, 0), (139, 0, 0), (140, 0, 0), (141, 0, 0), (142, 0, 0), (143, 0, 0), (144, 0, 0), (145, 0, 0), (146, 0, 0), (147, 0, 0), (148, 0, 0), (149, 0, 0), (150, 0, 0), (151, 0, 0), (152, 0, 0), (153, 0, 0), (154, 0, 0), (155, 3, 0), (155, 3, 1), (155, 3, 2), (164, 3, 0), (164, 3, 1), (164, 3, 2), (200, 1, 0), (350, 1, 0), (650, 3, 0), (650, 3, 1), (650, 3, 2), (710, 2, 0), (710, 2, 1), (722, 0, 0), (723, 0, 0), (724, 0, 0), (725, 0, 0), (726, 0, 0), (727, 0, 0), (728, 0, 0), (729, 0, 0), (730, 0, 0), (731, 0, 0), (732, 0, 0), (733, 0, 0), (734, 0, 0), (735, 0, 0), (736, 0, 0), (737, 0, 0), (738, 0, 0), (739, 0, 0), (740, 0, 0), (741, 0, 0), (742, 0, 0), (743, 0, 0), (744, 0, 0), (745, 0, 0), (746, 0, 0), (747, 0, 0), (748, 0, 0), (749, 0, 0), (750, 0, 0), (751, 0, 0), (752, 0, 0), (753, 0, 0), (754, 0, 0), (755, 0, 0), (756, 0, 0), (757, 0, 0), (758, 0, 0), (759, 0, 0), (760, 0, 0), (761, 0, 0), (762, 0, 0), (763, 0, 0), (764, 0, 0), (765, 0, 0), (766, 0, 0), (767, 0, 0), (768, 0, 0), (769, 0, 0), (770, 0, 0), (771, 0, 0), (772, 0, 0), (773, 0, 0), (774, 0, 0), (775, 0, 0), (776, 0, 0), (777, 0, 0), (778, 0, 0), (779, 0, 0), (780, 0, 0), (781, 0, 0), (782, 0, 0), (783, 0, 0), (784, 0, 0), (785, 0, 0), (786, 0, 0), (787, 0, 0), (788, 0, 0), (789, 0, 0)]
def adr (B t1 t2 k i : Nat) : Nat := cond (Nat.beq k 119) t1 (cond (Nat.beq k 120) t2 (match t_nth zofs k with
  | some (o, st, d) => cond (Nat.beq st 0) (B + o) (cond (Nat.beq d 0) (B + o + st * i) (B + o + st * i + d))
  | none => 0))
def zini : List (Nat × List Int) := [(17, [0, 0, 0, 0, -1]), (38, [0, 0, 0, -1]), (41, [0, 0, -1, -1]), (44, [0, 0, 0, 0, 0, -1]), (45, [0, 1, -1, 0, 0, -1, -1]), (35, [0, 0, 0, 0, 0, 1]), (49, [-2, -1])]
def s0r (k j : Nat) : Int := cond (Nat.beq k 39) (if j < 48 then 1 else 0) (cond (Nat.beq k 57) (if j < 144 then 1 else 0) (cond (Nat.beq k 115) (if j < 6 then -1 else 0) (cond (Nat.beq k 120) (strB j) (match t_look zini k with
  | some l => (t_nth l j).getD 0
  | none => 0))))
def s0 : TM := fun k _ j => s0r k j
def zbh : List (Nat × Nat) := [(0, 0), (1, 0), (2, 0), (3, 0), (4, 0), (5, 0), (6, 0), (7, 0), (8, 0), (9, 0), (10, 0), (11, 0), (12, 0), (13, 0), (14, 0), (15, 0), (16, 0), (20, 0), (21, 0), (22, 0), (23, 0), (24, 0), (25, 0), (26, 0), (27, 0), (28, 0), (29, 0), (30, 0), (31, 0), (32, 0), (33, 0), (34, 0), (35, 0), (36, 0), (37, 0)]
def zfh : List (Nat × Nat) := (List.range 40).flatMap (fun q => [(17, q), (18, q), (19, q)]) ++ (List.range 3).flatMap (fun q => [(38, q), (39, q), (40, q)]) ++ (List.range 12).flatMap (fun q => [(41, q), (42, q), (43, q)]) ++ (List.range 150).flatMap (fun q => [(44, q)]) ++ (List.range 300).flatMap (fun q => [(45, q)]) ++ (List.range 20).flatMap (fun q => [(46, q), (47, q), (48, q)]) ++ (List.range 6).flatMap (fun q => [(49, q), (50, q)])
def zmh : List (Nat × Nat) := (List.range 68).map (fun i => (51 + i, 0))
def zhs : List (Nat × Nat) := (zbh ++ zfh) ++ zmh
theorem z_ite {n : Nat} {v : Int} : (fun j : Nat => if j < n then Int32.ofInt v else (0 : Int32)) = fun j => Int32.ofInt (if j < n then v else 0) := by
  funext j
  by_cases h : j < n
  · rw [if_pos h, if_pos h]
  · rw [if_neg h, if_neg h]
    rfl
def zall (D : va_G) (H : Heap) : va_W → va_W → Prop
  | [], [] => True
  | q :: w, q' :: w' => (q.1 = q'.1 ∧ (va_at D vwCl q H → va_at D vwCl q' H)) ∧ zall D H w w'
  | _, _ => False
theorem zall_rfl {D : va_G} {H : Heap} : ∀ w : va_W, zall D H w w
  | [] => trivial
  | _ :: w => ⟨⟨rfl, fun x => x⟩, zall_rfl w⟩
theorem zall_app {D : va_G} {H : Heap} : ∀ (w1 v1 w2 v2 : va_W), zall D H w1 v1 → zall D H w2 v2 → zall D H (w1 ++ w2) (v1 ++ v2)
  | [], [], _, _, _, h => h
  | _ :: w, _ :: v, w2, v2, h1, h2 => ⟨h1.1, zall_app w v w2 v2 h1.2 h2⟩
  | [], _ :: _, _, _, h, _ => h.elim
  | _ :: _, [], _, _, h, _ => h.elim
theorem zall_get {D : va_G} {H : Heap} : ∀ (w v : va_W) (k : Nat) (q' : Nat × va_E), zall D H w v → v[k]? = some q' → ∃ q, w[k]? = some q ∧ q.1 = q'.1 ∧ (va_at D vwCl q H → va_at D vwCl q' H)
  | [], [], _, _, _, h => by cases h
  | q :: w, q2 :: v, 0, q', h1, h2 => by
    cases h2
    exact ⟨q, rfl, h1.1.1, h1.1.2⟩
  | q :: w, q2 :: v, k + 1, q', h1, h2 => by
    obtain ⟨q3, a, b⟩ := zall_get w v k q' h1.2 (by simpa using h2)
    exact ⟨q3, by simpa using a, b⟩
  | [], _ :: _, _, _, h, _ => h.elim
  | _ :: _, [], _, _, h, _ => h.elim
theorem Wd.all {D : va_G} {A : Nat → Prop} {H0 H : Heap} {locs : List Loc} {n : Nat} {w v : va_W} (h : Wd D A H0 w H locs n) (ha : zall D H w v) : Wd D A H0 v H locs n := by
  obtain ⟨hz, hP, hD, hS⟩ := h
  refine ⟨hz, fun k q hk => ?_, ⟨fun i j x y hi hj hxy => ?_, fun k q hk => ?_⟩, hS⟩
  · obtain ⟨q0, h1, h2, h3⟩ := zall_get w v k q ha hk
    exact h3 (hP k q0 h1)
  · obtain ⟨x0, h1, h2, -⟩ := zall_get w v i x ha hi
    obtain ⟨y0, h3, h4, -⟩ := zall_get w v j y ha hj
    exact hD.1 i j x0 y0 h1 h3 (h2.trans (hxy.trans h4.symm))
  · obtain ⟨q0, h1, h2, h3⟩ := zall_get w v k q ha hk
    rw [← h2]
    exact hD.2 k q0 h1
theorem z_refs {D : va_G} {H : Heap} {a N : Nat} {cA : ClassId} {f g : Nat → Option Nat} (h : ∀ j, j < N → f j = g j) : va_at D vwCl (a, .inl (cA, N, .inr (.inr (.inr (.inr f))))) H → va_at D vwCl (a, .inl (cA, N, .inr (.inr (.inr (.inr g))))) H := by
  intro hh
  have hh : H[a]? = some (arrV cA N (fun j => va_rf (f j))) := hh
  rw [arrV_congr (g := fun j => va_rf (g j)) (fun j hj => by rw [h j hj])] at hh
  exact hh
section
variable {B t1 t2 : Nat} {ca : Nat → ClassId} {D : va_G} {H : Heap}
theorem wsl_app {hs1 hs2 : List (Nat × Nat)} {ad : Nat → Nat → Nat} {σ : TM} : wsl (hs1 ++ hs2) ad ca σ = wsl hs1 ad ca σ ++ wsl hs2 ad ca σ := List.map_append
theorem wsl_fm {N : Nat} {f : Nat → List (Nat × Nat)} {g : Nat → va_W} {ad : Nat → Nat → Nat} {σ : TM} (h : ∀ q, g q = wsl (f q) ad ca σ) : (List.range N).flatMap g = wsl ((List.range N).flatMap f) ad ca σ := by
  rw [show g = fun q => wsl (f q) ad ca σ from funext h]
  unfold wsl
  rw [List.map_flatMap]
set_option maxRecDepth 20000 in
theorem zbk_6 (q : Nat) : zo6 ca (B + 3 + 14 + 3 * q) = wsl [(17, q), (18, q), (19, q)] (adr B t1 t2) ca s0 := by
  rfl
set_option maxRecDepth 20000 in
theorem zbk_2 (q : Nat) : zo2 ca (B + 155 + 3 * q) = wsl [(38, q), (39, q), (40, q)] (adr B t1 t2) ca s0 := by
  unfold zo2
  rw [z_ite]
  rfl
set_option maxRecDepth 20000 in
theorem zbk_3 (q : Nat) : zo3 ca (B + 164 + 3 * q) = wsl [(41, q), (42, q), (43, q)] (adr B t1 t2) ca s0 := by
  rfl
set_option maxRecDepth 20000 in
theorem zbk_1 (q : Nat) : zo1 ca (B + 200 + 1 * q) = wsl [(44, q)] (adr B t1 t2) ca s0 := by
  rfl
set_option maxRecDepth 20000 in
theorem zbk_5 (q : Nat) : zo5 ca (B + 350 + 1 * q) = wsl [(45, q)] (adr B t1 t2) ca s0 := by
  rfl
set_option maxRecDepth 20000 in
theorem zbk_7 (q : Nat) : zo7 ca (B + 650 + 3 * q) = wsl [(46, q), (47, q), (48, q)] (adr B t1 t2) ca s0 := by
  rfl
set_option maxRecDepth 20000 in
theorem zbk_8 (q : Nat) : zo8 ca (B + 710 + 2 * q) = wsl [(49, q), (50, q)] (adr B t1 t2) ca s0 := by
  rfl
theorem zfk : zf11 ca B = wsl zfh (adr B t1 t2) ca s0 := by
  unfold zf11 zf4 zfh
  rw [wsl_app, wsl_app, wsl_app, wsl_app, wsl_app, wsl_app, wsl_fm zbk_6, wsl_fm zbk_2, wsl_fm zbk_3, wsl_fm zbk_1, wsl_fm zbk_5, wsl_fm zbk_7, wsl_fm zbk_8]
set_option maxRecDepth 20000 in
set_option maxHeartbeats 4000000 in
theorem zek : zall D H (ze11 ca B) (wsl zbh (adr B t1 t2) ca s0) := by
  unfold ze11 zbh
  refine ⟨⟨rfl, fun x => x⟩, ?_⟩
  refine ⟨⟨rfl, z_refs (fun j hj => by rw [if_pos hj]; rfl)⟩, ?_⟩
  refine ⟨⟨rfl, z_refs (fun j hj => by rw [if_pos hj]; rfl)⟩, ?_⟩
  refine ⟨⟨rfl, fun x => x⟩, ?_⟩
  refine ⟨⟨rfl, z_refs (fun j hj => by rw [if_pos hj]; rfl)⟩, ?_⟩
  refine ⟨⟨rfl, fun x => x⟩, ?_⟩
  refine ⟨⟨rfl, fun x => x⟩, ?_⟩
  refine ⟨⟨rfl, fun x => x⟩, ?_⟩
  refine ⟨⟨rfl, fun x => x⟩, ?_⟩
  refine ⟨⟨rfl, fun x => x⟩, ?_⟩
  refine ⟨⟨rfl, fun x => x⟩, ?_⟩
  refine ⟨⟨rfl, fun x => x⟩, ?_⟩
  refine ⟨⟨rfl, fun x => x⟩, ?_⟩
  refine ⟨⟨rfl, fun x => x⟩, ?_⟩
  refine ⟨⟨rfl, fun x => x⟩, ?_⟩
  refine ⟨⟨rfl, fun x => x⟩, ?_⟩
  refine ⟨⟨rfl, fun x => x⟩, ?_⟩
  refine ⟨⟨rfl, z_refs (fun j hj => by rw [if_pos hj]; rfl)⟩, ?_⟩
  refine ⟨⟨rfl, z_refs (fun j hj => by rw [if_pos hj]; rfl)⟩, ?_⟩
  refine ⟨⟨rfl, z_refs (fun j hj => by rw [if_pos hj]; rfl)⟩, ?_⟩
  refine ⟨⟨rfl, fun x => x⟩, ?_⟩
  refine ⟨⟨rfl, fun x => x⟩, ?_⟩
  refine ⟨⟨rfl, fun x => x⟩, ?_⟩
  refine ⟨⟨rfl, fun x => x⟩, ?_⟩
  refine ⟨⟨rfl, fun x => x⟩, ?_⟩
  refine ⟨⟨rfl, fun x => x⟩, ?_⟩
  refine ⟨⟨rfl, fun x => x⟩, ?_⟩
  refine ⟨⟨rfl, fun x => x⟩, ?_⟩
  refine ⟨⟨rfl, fun x => x⟩, ?_⟩
  refine ⟨⟨rfl, fun x => x⟩, ?_⟩
  refine ⟨⟨rfl, fun x => x⟩, ?_⟩
  refine ⟨⟨rfl, fun x => x⟩, ?_⟩
  refine ⟨⟨rfl, fun x => x⟩, ?_⟩
  refine ⟨⟨rfl, fun x => x⟩, ?_⟩
  refine ⟨⟨rfl, z_refs (fun j hj => by rw [if_pos hj]; rfl)⟩, ?_⟩
  exact trivial
set_option maxRecDepth 20000 in
theorem zmk : ∀ i, i < 67 → i ≠ 5 → i ≠ 63 → adr B t1 t2 (52 + i) 0 = B + 722 + 1 + i ∧ cE (adr B t1 t2) ca s0 (52 + i, 0) = .inl (ca (zme (52 + i)).1, zar (zme (52 + i)).1 (zme (52 + i)).2)
  | 0, _, _, _ => ⟨rfl, rfl⟩
  | 1, _, _, _ => ⟨rfl, rfl⟩
  | 2, _, _, _ => ⟨rfl, rfl⟩
  | 3, _, _, _ => ⟨rfl, rfl⟩
  | 4, _, _, _ => ⟨rfl, rfl⟩
  | 5, _, h, _ => absurd rfl h
  | 6, _, _, _ => ⟨rfl, rfl⟩
  | 7, _, _, _ => ⟨rfl, rfl⟩
  | 8, _, _, _ => ⟨rfl, rfl⟩
  | 9, _, _, _ => ⟨rfl, rfl⟩
  | 10, _, _, _ => ⟨rfl, rfl⟩
  | 11, _, _, _ => ⟨rfl, rfl⟩
  | 12, _, _, _ => ⟨rfl, rfl⟩
  | 13, _, _, _ => ⟨rfl, rfl⟩
  | 14, _, _, _ => ⟨rfl, rfl⟩
  | 15, _, _, _ => ⟨rfl, rfl⟩
  | 16, _, _, _ => ⟨rfl, rfl⟩
  | 17, _, _, _ => ⟨rfl, rfl⟩
  | 18, _, _, _ => ⟨rfl, rfl⟩
  | 19, _, _, _ => ⟨rfl, rfl⟩
  | 20, _, _, _ => ⟨rfl, rfl⟩
  | 21, _, _, _ => ⟨rfl, rfl⟩
  | 22, _, _, _ => ⟨rfl, rfl⟩
  | 23, _, _, _ => ⟨rfl, rfl⟩
  | 24, _, _, _ => ⟨rfl, rfl⟩
  | 25, _, _, _ => ⟨rfl, rfl⟩
  | 26, _, _, _ => ⟨rfl, rfl⟩
  | 27, _, _, _ => ⟨rfl, rfl⟩
  | 28, _, _, _ => ⟨rfl, rfl⟩
  | 29, _, _, _ => ⟨rfl, rfl⟩
  | 30, _, _, _ => ⟨rfl, rfl⟩
  | 31, _, _, _ => ⟨rfl, rfl⟩
  | 32, _, _, _ => ⟨rfl, rfl⟩
  | 33, _, _, _ => ⟨rfl, rfl⟩
  | 34, _, _, _ => ⟨rfl, rfl⟩
  | 35, _, _, _ => ⟨rfl, rfl⟩
  | 36, _, _, _ => ⟨rfl, rfl⟩
  | 37, _, _, _ => ⟨rfl, rfl⟩
  | 38, _, _, _ => ⟨rfl, rfl⟩
  | 39, _, _, _ => ⟨rfl, rfl⟩
  | 40, _, _, _ => ⟨rfl, rfl⟩
  | 41, _, _, _ => ⟨rfl, rfl⟩
  | 42, _, _, _ => ⟨rfl, rfl⟩
  | 43, _, _, _ => ⟨rfl, rfl⟩
  | 44, _, _, _ => ⟨rfl, rfl⟩
  | 45, _, _, _ => ⟨rfl, rfl⟩
  | 46, _, _, _ => ⟨rfl, rfl⟩
  | 47, _, _, _ => ⟨rfl, rfl⟩
  | 48, _, _, _ => ⟨rfl, rfl⟩
  | 49, _, _, _ => ⟨rfl, rfl⟩
  | 50, _, _, _ => ⟨rfl, rfl⟩
  | 51, _, _, _ => ⟨rfl, rfl⟩
  | 52, _, _, _ => ⟨rfl, rfl⟩
  | 53, _, _, _ => ⟨rfl, rfl⟩
  | 54, _, _, _ => ⟨rfl, rfl⟩
  | 55, _, _, _ => ⟨rfl, rfl⟩
  | 56, _, _, _ => ⟨rfl, rfl⟩
  | 57, _, _, _ => ⟨rfl, rfl⟩
  | 58, _, _, _ => ⟨rfl, rfl⟩
  | 59, _, _, _ => ⟨rfl, rfl⟩
  | 60, _, _, _ => ⟨rfl, rfl⟩
  | 61, _, _, _ => ⟨rfl, rfl⟩
  | 62, _, _, _ => ⟨rfl, rfl⟩
  | 63, _, _, h => absurd rfl h
  | 64, _, _, _ => ⟨rfl, rfl⟩
  | 65, _, _, _ => ⟨rfl, rfl⟩
  | 66, _, _, _ => ⟨rfl, rfl⟩
  | i + 67, h, _, _ => absurd h (by omega)
set_option maxRecDepth 20000 in
theorem zm0 : adr B t1 t2 51 0 = B + 722 ∧ cE (adr B t1 t2) ca s0 (51, 0) = .inr (12, zmf (B + 722) 67) := ⟨rfl, rfl⟩
theorem zm57 : adr B t1 t2 57 0 = B + 722 + 1 + 5 ∧ cE (adr B t1 t2) ca s0 (57, 0) = .inl (ca 0, 144, .inl (fun j => Int32.ofInt (if j < 144 then 1 else 0))) := ⟨rfl, rfl⟩
theorem zm115 : adr B t1 t2 115 0 = B + 722 + 1 + 63 ∧ cE (adr B t1 t2) ca s0 (115, 0) = .inl (ca 0, 6, .inl (fun j => Int32.ofInt (if j < 6 then -1 else 0))) := ⟨rfl, rfl⟩
theorem zok : zo12 ca (B + 722) = wsl zmh (adr B t1 t2) ca s0 := by
  unfold zo12 zmh wsl
  rw [z_ite, z_ite, List.map_map]
  apply List.ext_getElem?
  intro k
  rw [List.getElem?_map]
  by_cases hk : k < 68
  · rw [List.getElem?_range hk]
    show _ = some (adr B t1 t2 (51 + k) 0, cE (adr B t1 t2) ca s0 (51 + k, 0))
    by_cases h64 : k = 64
    · subst h64
      rw [List.getElem?_set_self (by rw [List.length_set, List.length_cons, zmr_len]; decide)]
      rw [(zm115 (ca := ca)).1, zm115.2]
    · rw [List.getElem?_set_ne (Ne.symm h64)]
      by_cases h6 : k = 6
      · subst h6
        rw [List.getElem?_set_self (by rw [List.length_cons, zmr_len]; decide)]
        rw [(zm57 (ca := ca)).1, zm57.2]
      · rw [List.getElem?_set_ne (Ne.symm h6)]
        cases k with
        | zero =>
          rw [List.getElem?_cons_zero, (zm0 (ca := ca)).1, zm0.2]
        | succ i =>
          rw [List.getElem?_cons_succ, zmr_get 67 (by omega)]
          rw [show 51 + (i + 1) = 52 + i by omega]
          obtain ⟨e1, e2⟩ := zmk (B := B) (t1 := t1) (t2 := t2) (ca := ca) i (by omega) (by omega) (by omega)
          rw [e1, e2]
  · have h1 : (List.range 68).length ≤ k := by rw [List.length_range]; omega
    rw [List.getElem?_eq_none h1]
    rw [List.getElem?_eq_none (by simp only [List.length_set, List.length_cons, zmr_len]; omega)]
    rfl
theorem zwld {A : Nat → Prop} {H0 : Heap} {locs : List Loc} {n : Nat} (h : Wd D A H0 (zo11 ca B ++ zo12 ca (B + 722)) H locs n) : Wd D A H0 (wsl zhs (adr B t1 t2) ca s0) H locs n := by
  refine h.all ?_
  unfold zhs zo11
  rw [wsl_app, wsl_app, zfk, zok]
  exact zall_app _ _ _ _ (zall_app _ _ _ _ zek (zall_rfl _)) (zall_rfl _)
end
def kcn (k : Nat) : Nat := match t_nth tb_kinds k with
  | some r => r.2.2.2.2
  | none => 0
theorem zh_lt : zhs.all (fun h => Nat.blt h.1 119 && Nat.blt h.2 (kcn h.1)) = true := by decide +kernel
def zin (k i : Nat) : List (Nat × Nat) → Bool
  | [] => false
  | h :: l => cond (Nat.beq h.1 k) (cond (Nat.beq h.2 i) true (zin k i l)) (zin k i l)
theorem zin_ok {k i : Nat} : ∀ l : List (Nat × Nat), zin k i l = true → (k, i) ∈ l
  | [], h => by cases h
  | h :: l, h1 => by
    unfold zin at h1
    cases e1 : Nat.beq h.1 k with
    | false =>
      rw [e1] at h1
      exact List.mem_cons_of_mem _ (zin_ok l h1)
    | true =>
      rw [e1] at h1
      cases e2 : Nat.beq h.2 i with
      | false =>
        rw [e2] at h1
        exact List.mem_cons_of_mem _ (zin_ok l h1)
      | true =>
        have a1 := Nat.eq_of_beq_eq_true e1
        have a2 := Nat.eq_of_beq_eq_true e2
        rw [show (k, i) = h from (Prod.ext a1 a2).symm]
        exact List.mem_cons_self
set_option maxRecDepth 100000 in
theorem zh_in : ((List.range 119).all fun k => (List.range (kcn k)).all fun i => zin k i zhs) = true := by decide +kernel
theorem zh_mem {k i : Nat} (hk : k < 119) (hi : i < kcn k) : (k, i) ∈ zhs := zin_ok _ (List.all_eq_true.mp (List.all_eq_true.mp zh_in k (List.mem_range.mpr hk)) i (List.mem_range.mpr hi))
theorem zh_of {k i : Nat} (h : (k, i) ∈ zhs) : k < 119 ∧ i < kcn k := by
  have h1 := List.all_eq_true.mp zh_lt _ h
  simp only [Bool.and_eq_true] at h1
  have a : k + 1 ≤ 119 := by simpa [Nat.blt] using h1.1
  have b : i + 1 ≤ kcn k := by simpa [Nat.blt] using h1.2
  omega
def zrf (r : KRow) : Bool := r.2.1.all (fun x => match x with
  | some k' => Nat.blt k' 119 && Nat.ble r.2.2.2.2 (kcn k')
  | none => true) && (match r.2.2.2.1 with
  | some (n, k') => Nat.blt k' 119 && Nat.ble n.toNat (kcn k')
  | none => true)
theorem zrf_all : (tb_kinds.take 119).all zrf = true := by decide +kernel
theorem t_nth_take {α : Type} : ∀ (l : List α) (k n : Nat), k < n → t_nth (l.take n) k = t_nth l k
  | [], k, n, _ => by simp
  | a :: l, 0, n + 1, _ => rfl
  | a :: l, k + 1, n + 1, h => by
    rw [List.take_succ_cons]
    exact t_nth_take l k n (by omega)
theorem zrf_at {k : Nat} {r : KRow} (hk : k < 119) (h : t_nth tb_kinds k = some r) : zrf r = true := List.all_eq_true.mp zrf_all r (t_nth_mem _ k _ (by rw [t_nth_take _ _ _ hk]; exact h))
theorem zHC (hn : zhs.Nodup) : HC zhs := by
  refine ⟨hn, fun h hh => (zh_of hh).1, fun k i s k' hh hr => ?_, fun k n k' j hh hr hj => ?_⟩
  · obtain ⟨hk, hi⟩ := zh_of hh
    cases hq : t_nth tb_kinds k with
    | none =>
      unfold t_ref at hr
      rw [show t_nth tbl.1 k = none from hq] at hr
      cases hr
    | some r =>
      have hm := k_ref hq hr
      have hz := zrf_at hk hq
      unfold zrf at hz
      rw [Bool.and_eq_true] at hz
      have h1 := List.all_eq_true.mp hz.1 _ (t_nth_mem _ _ _ hm)
      simp only [Bool.and_eq_true] at h1
      have a : k' + 1 ≤ 119 := by simpa [Nat.blt] using h1.1
      have b := Nat.le_of_ble_eq_true h1.2
      have c : kcn k = r.2.2.2.2 := by unfold kcn; rw [hq]
      exact zh_mem (by omega) (by omega)
  · obtain ⟨hk, hi⟩ := zh_of hh
    unfold t_aar at hr
    cases hq : t_nth tb_kinds k with
    | none =>
      rw [show t_nth tbl.1 k = none from hq] at hr
      cases hr
    | some r =>
      rw [show t_nth tbl.1 k = some r from hq] at hr
      have hr : r.2.2.2.1 = some (n, k') := hr
      have hz := zrf_at hk hq
      unfold zrf at hz
      rw [Bool.and_eq_true, hr] at hz
      have h1 := hz.2
      simp only [Bool.and_eq_true] at h1
      have a : k' + 1 ≤ 119 := by simpa [Nat.blt] using h1.1
      have b := Nat.le_of_ble_eq_true h1.2
      exact zh_mem (by omega) (by omega)
theorem zND {A : Nat → Prop} {ad : Nat → Nat → Nat} {ca : Nat → ClassId} {σ : TM} (h : va_D A (wsl zhs ad ca σ)) : zhs.Nodup := by
  rw [List.Nodup, List.pairwise_iff_getElem]
  intro i j hi hj hij e
  have h1 : (wsl zhs ad ca σ)[i]? = some (ad (zhs[i]).1 (zhs[i]).2, cE ad ca σ zhs[i]) := by unfold wsl; rw [List.getElem?_map, List.getElem?_eq_getElem hi]; rfl
  have h2 : (wsl zhs ad ca σ)[j]? = some (ad (zhs[j]).1 (zhs[j]).2, cE ad ca σ zhs[j]) := by unfold wsl; rw [List.getElem?_map, List.getElem?_eq_getElem hj]; rfl
  have := h.1 i j _ _ h1 h2 (by rw [e])
  omega
theorem zs0_b : ∀ k j, -2 ≤ s0r k j ∧ s0r k j ≤ 122 := by
  intro k j
  unfold s0r
  have hb : ∀ (l : List Int), (∀ x ∈ l, -2 ≤ x ∧ x ≤ 122) → -2 ≤ (t_nth l j).getD 0 ∧ (t_nth l j).getD 0 ≤ 122 := by
    intro l hl
    cases hq : t_nth l j with
    | none => exact ⟨by decide, by decide⟩
    | some x => exact hl x (t_nth_mem _ _ _ hq)
  cases Nat.beq k 39 with
  | true => simp only [cond_true]; split <;> exact ⟨by decide, by decide⟩
  | false =>
    cases Nat.beq k 57 with
    | true => simp only [cond_true, cond_false]; split <;> exact ⟨by decide, by decide⟩
    | false =>
      cases Nat.beq k 115 with
      | true => simp only [cond_true, cond_false]; split <;> exact ⟨by decide, by decide⟩
      | false =>
        cases Nat.beq k 120 with
        | true =>
          simp only [cond_true, cond_false]
          exact hb _ (by decide)
        | false =>
          simp only [cond_false]
          split
          · next l hl =>
            have h1 : zini.all (fun e => e.2.all (fun x => decide (-2 ≤ x) && decide (x ≤ 122))) = true := by decide +kernel
            have h2 := List.all_eq_true.mp h1 _ (t_look_mem _ _ _ hl)
            refine hb l (fun x hx => ?_)
            have h3 := List.all_eq_true.mp h2 x hx
            simpa using h3
          · exact ⟨by decide, by decide⟩
theorem zs0_M : OkM s0 := by
  refine ⟨fun k i j => ?_, rfl, fun j _ => rfl⟩
  obtain ⟨h1, h2⟩ := zs0_b k j
  have e : s0 k i j = s0r k j := rfl
  rw [e]
  unfold R64 R32
  exact ⟨by omega, Or.inr (by omega)⟩
theorem zs0_B : BGn s0 := by
  refine ⟨⟨rfl, rfl, rfl, rfl, rfl, rfl, rfl, rfl⟩, fun g _ => ⟨rfl, rfl, rfl⟩, fun g c _ hc => ⟨?_, rfl⟩, fun h _ => ⟨rfl, rfl, rfl⟩, fun p _ => ⟨rfl, rfl, rfl, rfl⟩, fun o _ => ⟨rfl, rfl⟩, rfl, rfl, rfl, fun x _ => ⟨rfl, fun i _ => rfl⟩, rfl, fun j _ => rfl⟩
  show (if c < 48 then (1 : Int) else 0) = 1
  rw [if_pos hc]
theorem zs0_V : RV s0 V0 := by
  intro k j h1 h2 _
  have a : 50 + 1 ≤ k := by simpa [Nat.blt] using h1
  have b : k + 1 ≤ 119 := by simpa [Nat.blt] using h2
  show s0r k j = V0 k j
  unfold V0
  by_cases e1 : k = 57
  · subst e1
    rfl
  · by_cases e2 : k = 115
    · subst e2
      rfl
    · rw [if_neg e1, if_neg e2]
      unfold s0r
      have n1 : Nat.beq k 39 = false := beq_ne (by omega)
      have n2 : Nat.beq k 57 = false := beq_ne e1
      have n3 : Nat.beq k 115 = false := beq_ne e2
      have n4 : Nat.beq k 120 = false := beq_ne (by omega)
      rw [n1, n2, n3, n4]
      simp only [cond_false]
      have n5 : t_look zini k = none := by
        simp only [zini, t_look, beq_ne (show 17 ≠ k by omega), beq_ne (show 38 ≠ k by omega), beq_ne (show 41 ≠ k by omega), beq_ne (show 44 ≠ k by omega), beq_ne (show 45 ≠ k by omega), beq_ne (show 35 ≠ k by omega), beq_ne (show 49 ≠ k by omega), cond_false]
      rw [n5]
theorem zWW : WW s0 V0 := ww_start zs0_B zs0_V
