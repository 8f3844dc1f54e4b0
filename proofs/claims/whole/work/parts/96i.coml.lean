/-! ===== PURE: what may come, as a list of totals and marks ===== -/
theorem frow_pre : ∀ (c : List Int) (n : Nat) (st : Int), rok c → dn c < st → c.length < n → frow n st c = (frow (n - c.length) (st - dn c) []).map (c ++ ·)
  | [], n, st, _, _, _ => by
    have : dn [] = 0 := by simp [dn, lsum]
    rw [this, Int.sub_zero]
    show _ = (frow n st []).map (fun r => r)
    rw [List.map_id']
  | x :: c, n, st, hr, hd, hl => by
    have hc : rok c := fun y hy => hr y (by simp [hy])
    have hx := tk_ok (hr x (by simp))
    have h0 := dn_nn hc
    rw [dn_cons] at hd
    rw [List.length_cons] at hl
    obtain ⟨m, rfl⟩ : ∃ m, n = m + 1 := ⟨n - 1, by omega⟩
    rw [frow, if_neg (by omega)]
    rw [frow_pre c m (st - tk x) hc (by omega) (by omega), List.map_map, dn_cons, List.length_cons, show m + 1 - (c.length + 1) = m - c.length by omega, show st - (tk x + dn c) = st - tk x - dn c by omega]
    rfl
def stf (G : Gm) : Int → List Int → Int
  | st, [] => st
  | st, x :: c => stf G (nst G st x) c
theorem frw_pre {G : Gm} : ∀ (c : List Int) (n : Nat) (st : Int), c.length ≤ n → frw G n st c = (frw G (n - c.length) (stf G st c) []).map (c ++ ·)
  | [], n, st, _ => by
    show _ = (frw G n st []).map (fun r => r)
    rw [List.map_id']
  | x :: c, n, st, hl => by
    rw [List.length_cons] at hl
    obtain ⟨m, rfl⟩ : ∃ m, n = m + 1 := ⟨n - 1, by omega⟩
    rw [frw, frw_pre c m (nst G st x) (by omega), List.map_map, List.length_cons, show m + 1 - (c.length + 1) = m - c.length by omega]
    rfl
def PMk (w : Wy) : Int × Int := (w.2.1, w.2.2)
theorem Lf_BkM (G : Gm) (Q : Qu) : ∀ (n f : Nat), Q.2.2.1 < f → (Lf G Q (f + n + 1)).map PMk = (Lf G Q f).flatMap (fun w => (Bk G Q n f w.1).map (fun b => (w.2.1 + b, w.2.2)))
  | 0, f, hf => by
    rw [Nat.add_zero, Lf_s, List.map_flatMap]
    congr 1
    funext w
    unfold Bk
    rw [List.map_map, List.map_map]
    congr 1
    funext k
    show (w.2.1 + k.2.1, if (f : Int) = Q.2.2.1 then k.2.2 else w.2.2) = _
    rw [if_neg (by omega)]
    rfl
  | n + 1, f, hf => by
    have h := Lf_BkM G Q n (f + 1) (by omega)
    rw [show f + (n + 1) + 1 = f + 1 + n + 1 by omega, h, Lf_s, List.flatMap_assoc]
    congr 1
    funext w
    rw [Bk, List.map_flatMap, List.flatMap_map]
    congr 1
    funext k
    rw [List.map_map]
    congr 1
    funext b
    show (w.2.1 + k.2.1 + b, if (f : Int) = Q.2.2.1 then k.2.2 else w.2.2) = (w.2.1 + (k.2.1 + b), w.2.2)
    rw [if_neg (by omega), Int.add_assoc]
theorem Bk_free {G : Gm} {Q : Qu} (hq : Q.2.1 = false) : ∀ (n f : Nat), (f : Int) + n = G.1 1 → (∀ g : Int, f ≤ g → g ≤ G.1 1 → Q.1 g = []) → ∀ o, Bk G Q n f o = Bk G QF n f o
  | 0, f, hf, h, o => by
    rw [Bk_0 (by omega)]
    unfold Bk KS
    rw [if_neg (by omega), if_neg (by rintro ⟨z, _⟩; rw [hq] at z; exact absurd z (by decide)), List.map_map, h (G.1 1) (by omega) (by omega)]
    rfl
  | n + 1, f, hf, h, o => by
    rw [Bk_S (by omega), Bk, KS, if_pos (by omega), List.flatMap_map, h f (by omega) (by omega)]
    congr 1
    funext F
    dsimp only
    rw [Bk_free hq n (f + 1) (by omega) (fun g h1 h2 => h g (by omega) h2)]
/-- totals and marks of all that may come -/
def LM (G : Gm) (R : List Int) : List (Int × Int) := (LA G R).map PMk
theorem getD_pre (c r : List Int) : (c ++ r).getD c.length 0 = r.getD 0 0 := by
  rw [List.getD_eq_getElem?_getD, List.getD_eq_getElem?_getD, List.getElem?_append_right (Nat.le_refl _), Nat.sub_self]
theorem LM_open {G : Gm} (hG : GOK G) {R : List Int} (hV : VR G R) (ha : ((spl G R).1.length : Int) < G.1 1) : LM G R = (frow ((G.1 2).toNat - (spl G R).2.length) (G.1 0 - dn (spl G R).2) []).flatMap (fun r => (Bk G QF (FT G - (spl G R).1.length - 1) ((spl G R).1.length + 1) (fo G (spl G R).1.length (owd G (spl G R).1) ((spl G R).2 ++ r)).1).map (fun b => (gs G (spl G R).1 (spl G R).1.length + (fo G (spl G R).1.length (owd G (spl G R).1) ((spl G R).2 ++ r)).2 + b, tk (r.getD 0 0)))) := by
  have hO := hV.ok hG
  have h8 := hG.2.1
  have hr := hG.2.2.1
  have hd := hO.2.2.2.1 ha
  have efra : fra (spl G R) (spl G R).1.length = (spl G R).2 := by unfold fra; rw [if_neg (by omega), if_neg (by omega), if_pos rfl]
  have hfree : ∀ g : Int, (((spl G R).1.length + 1 : Nat) : Int) ≤ g → g ≤ G.1 1 → (QA G R).1 g = [] := by
    intro g h1 h2
    show fra (spl G R) g = []
    unfold fra
    rw [if_neg (by omega), if_neg (by omega), if_neg (by omega)]
  have e1 : (G.1 1).toNat + 1 = (spl G R).1.length + 1 + (FT G - (spl G R).1.length - 1) + 1 := by unfold FT; omega
  unfold LM LA
  rw [e1, Lf_BkM G (QA G R) _ _ (by show ((spl G R).1.length : Int) < ((spl G R).1.length + 1 : Nat); omega), Lf_s, LA_one hG hV _ (Nat.le_refl _), List.take_length, List.flatMap_cons, List.flatMap_nil, List.append_nil, List.flatMap_map]
  unfold KS
  rw [if_pos ha]
  show ((frow (G.1 2).toNat (G.1 0) (fra (spl G R) (spl G R).1.length)).map _).flatMap _ = _
  rw [efra, frow_pre _ _ _ hO.2.2.1 hd.1 (by omega), List.map_map, List.flatMap_map]
  congr 1
  funext r
  dsimp only [Function.comp, nxt]
  rw [Bk_free rfl _ _ (by unfold FT; omega) hfree]
  congr 1
  funext b
  have em : (if (((spl G R).1.length : Nat) : Int) = (QA G R).2.2.1 then lm (QA G R).2.2.1 (QA G R).2.2.2 ((spl G R).1.length : Nat) ((spl G R).2 ++ r) else (0 : Int)) = tk (r.getD 0 0) := by
    rw [if_pos (show (((spl G R).1.length : Nat) : Int) = (QA G R).2.2.1 from rfl)]
    unfold lm
    rw [if_pos (show (((spl G R).1.length : Nat) : Int) = (QA G R).2.2.1 from rfl)]
    show tk (((spl G R).2 ++ r).getD ((((spl G R).2.length : Nat) : Int).toNat) 0) = _
    rw [Int.toNat_natCast, getD_pre]
  rw [em]
theorem LM_fill {G : Gm} (hG : GOK G) {R : List Int} (hV : VR G R) (ha : ((spl G R).1.length : Int) = G.1 1) (hc : ((spl G R).2.length : Int) ≤ cnt (owd G (spl G R).1)) : LM G R = (frw G ((cnt (owd G (spl G R).1)).toNat - (spl G R).2.length) (stf G (G.1 0) (spl G R).2) []).map (fun r => (tot G (spl G R) + gf (own G (spl G R)) r, tk (r.getD 0 0))) := by
  have h8 := hG.2.1
  have efra : fra (spl G R) (G.1 1) = (spl G R).2 := by unfold fra; rw [if_neg (by omega), if_neg (by omega), if_pos ha.symm]
  have e1 : (G.1 1).toNat = (spl G R).1.length := by omega
  unfold LM LA
  rw [e1, Lf_s, LA_one hG hV _ (Nat.le_refl _), List.take_length, List.flatMap_cons, List.flatMap_nil, List.append_nil, List.map_map]
  unfold KS
  rw [if_neg (by omega), if_neg (by rintro ⟨z, _⟩; exact Bool.noConfusion (show (false : Bool) = true from z))]
  show ((frw G (cnt (owd G (spl G R).1)).toNat (G.1 0) (fra (spl G R) (G.1 1))).map _).map _ = _
  rw [efra, frw_pre _ _ _ (by omega), List.map_map, List.map_map]
  congr 1
  funext r
  show (gs G (spl G R).1 (spl G R).1.length + gf (owd G (spl G R).1) ((spl G R).2 ++ r), if (((spl G R).1.length : Nat) : Int) = (QA G R).2.2.1 then lm (QA G R).2.2.1 (QA G R).2.2.2 ((spl G R).1.length : Nat) ((spl G R).2 ++ r) else (0 : Int)) = _
  have em : (if (((spl G R).1.length : Nat) : Int) = (QA G R).2.2.1 then lm (QA G R).2.2.1 (QA G R).2.2.2 ((spl G R).1.length : Nat) ((spl G R).2 ++ r) else (0 : Int)) = tk (r.getD 0 0) := by
    rw [if_pos (show (((spl G R).1.length : Nat) : Int) = (QA G R).2.2.1 from rfl)]
    unfold lm
    rw [if_pos (show (((spl G R).1.length : Nat) : Int) = (QA G R).2.2.1 from rfl)]
    show tk (((spl G R).2 ++ r).getD ((((spl G R).2.length : Nat) : Int).toNat) 0) = _
    rw [Int.toNat_natCast, getD_pre]
  rw [em, gf_app, tot_gs hG, Int.add_assoc]
  rfl
