/-! add -/
theorem S_add {I A : mI} {J B : mJ} (x y : Int32) (h : Nat → Nat) (hs : Sim I J A B) : Rl (f11 x y I J h) (f126 x y A B) (fun u v => u.1 = v.1 ∧ Sim u.2.1 u.2.2.1 v.2.1 v.2.2) := by
  have hs' := hs
  obtain ⟨a1, a2, a3, a4, a5, a6, a7, a8, a9, a10, a11⟩ := hs
  unfold f11 f126
  rcases pl_cases x with ⟨e1, e2⟩ | ⟨p, hp, rfl, e1, e2⟩
  · rw [e1, e2, bF, bF]
    exact Rl.ret ⟨rfl, hs'⟩
  rw [e1, e2, bT, bT]
  have e120 : f120 y 0 255 = if y < 0 then some false else if 255 < y then some false else some true := rfl
  rw [e120]
  by_cases y0 : y < 0
  · rw [if_pos y0, if_pos y0]
    exact Rl.ret ⟨rfl, hs'⟩
  rw [if_neg y0, if_neg y0]
  by_cases y1 : 255 < y
  · rw [if_neg (fun z => (i_nlt _ _).mpr z y1), if_pos y1]
    exact Rl.ret ⟨rfl, hs'⟩
  rw [if_pos ((i_nlt _ _).mp y1), if_neg y1, bT]
  have g8 := i_g hp (show 8 ≤ 2147483648 by decide)
  have g9 := i_g (show p < 9 by omega) (show 9 ≤ 2147483648 by decide)
  have ep : (Int32.ofNat p).toNatClampNeg = p := i_cl (by omega)
  simp only [if_neg g8, if_neg g9]
  simp only [ep, nar0, nar1]
  rw [(a3 p hp).1]
  by_cases c0 : ¬ A 92 0 p = 0
  · rw [if_neg c0, if_neg c0]
    exact Rl.ret ⟨rfl, hs'⟩
  replace c0 : A 92 0 p = 0 := Decidable.byContradiction c0
  rw [if_pos c0, if_pos c0]
  obtain ⟨I', J', h', A', B', k1, k2, i1, i2, i3, i4, i5, i6, i7, i8, i9⟩ := ins_s h y hp hs' c0
  simp only [u3_eq]
  rw [k1, k2, Option.bind_some]
  simp only
  unfold j126_322
  rw [c_f32, c_f125, Option.bind_some, Option.bind_some]
  simp only [if_neg g8]
  simp only [ep]
  have h93 : A 93 0 p = 0 := by
    by_cases z : A 93 0 p = 0
    · exact z
    · exact absurd c0 ((a6 p hp).1 z).1
  have w2 : g_wir (cI I') (cA A') (cJ J') (cB B') := c_wir i4
  have w3 : g_plug (cI I') (cA A') := i5.fr (c_fI I') (c_fA A') (by decide)
  rw [f134_t, Option.bind_assoc]
  refine Rl.bind (resolve_s w2 (fun q hq => ⟨(w3 q hq).1, (w3 q hq).2.1, (w3 q hq).2.2.2.2.2.2.2.2.1⟩)) ?_
  rintro I3 A3 ⟨r, fx⟩
  have k3 : g_plug I3 A3 := rs_plug w3 r
  have fI' : fr I3 I' [1, 2, 6] := (r.1.wd (by decide)).tr ((c_fI I').wd (by decide))
  have fA' : fr A3 A' [11, 83, 87, 89, 93] := (r.2.1.wd (by decide)).tr ((c_fA A').wd (by decide))
  have fI3 : fr I3 I [1, 2, 3, 4, 5, 6, 65, 66, 67, 69] := (fI'.wd (by decide)).tr (i1.wd (by decide))
  have fA3 : fr A3 A [11, 83, 84, 85, 86, 87, 88, 89, 92, 93, 94, 96, 97, 98, 99, 100, 105, 106, 107] := (fA'.wd (by decide)).tr (i2.wd (by decide))
  have x11 : ∀ c, 15 ≤ c → A3 11 0 c = A 11 0 c := fun c hc => by
    rw [r.2.1.c (t := 11) (by decide), c_11 A' (by omega), i3 c (by omega)]
  have t4 : g_tree I3 A3 (cJ J') (cB B') := i6.fr fI' (c_fJ J') fA' (c_fB B') (by decide)
  have e40 : (cA A') 11 0 40 = A3 11 0 40 := (r.2.1.c (t := 11) (by decide)).symm
  rw [e40]
  refine Rl.bind (change_s (I := I3) (A := A3) (J := cJ J') (B := cB B') (fun q hq => (r.2.2.2.1 q hq).1) t4 (i7.fr fI' (c_fJ J') (by decide)) (fun t ht => ?_) (a9.fr fI3 fA3 (x11 39 (by decide)) (by decide)) (a10.fr fI3 fA3 (x11 40 (by decide)) (by decide))) ?_
  · rw [fI3.c (t := 75) (by decide), fA3.c (t := 108) (by decide)]
    exact ⟨(a8 t ht).1, (a8 t ht).2.1⟩
  rintro ⟨y1', I4⟩ ⟨y2', A4⟩ ⟨o1, o2, o3, o4, o5, o6, o7, o8, o9, o10⟩
  simp only at o1 o2 o3 o4 o5 o6 o7 o8 o9 o10 ⊢
  have k4 : g_plug I4 A4 := k3.fr o2 o3 (by decide)
  have sim : Sim I4 (cJ J') A4 (cB B') := by
    have gI : fr I4 (cI I') [6, 10, 74, 75, 76, 80, 81] := (o2.wd (by decide)).tr (r.1.wd (by decide))
    have gA : fr A4 (cA A') [11, 93, 108, 109, 113, 115] := (o3.wd (by decide)).tr (r.2.1.wd (by decide))
    have z10 : A4 11 0 10 = cA A' 11 0 10 := by
      rw [o4 10 (by decide), r.2.1.c (t := 11) (by decide)]
    refine ⟨(c_txt I' A').fr gI gA z10 (by decide), w2.fr gI (fr.rf _ []) gA (fr.rf _ []) (by decide), k4, t4.fr o2 (fr.rf _ []) o3 (fr.rf _ []) (by decide), i7.fr (ts := [1, 2, 6, 10, 74, 75, 76, 80, 81]) ((o2.wd (by decide)).tr (fI'.wd (by decide))) (c_fJ J') (by decide), fun q hq => ⟨fun z => ?_, fun z => ?_⟩, o7, o8, o9, o10, ?_⟩
    · unfold g_mt
      rw [o3 93 (by decide)] at z ⊢
      rw [o3 92 (by decide), o3 83 (by decide), o3 84 (by decide), o3 85 (by decide), o3 86 (by decide), o3 96 (by decide)]
      refine ⟨?_, fx q hq z⟩
      rw [r.2.1 92 (by decide)]
      exact r.2.2.2.2.1 q hq z
    · rw [o3.c (t := 94) (by decide), fA'.c (t := 94) (by decide)] at z
      rw [o3.c (t := 93) (by decide)]
      by_cases e : q = p
      · rw [e, i9] at z
        exact absurd rfl z
      · rw [(i8 q hq e).2.2.1] at z
        refine r.2.2.2.2.2 (fun q => ¬ A 93 0 q = 0) (fun s hs hR => ?_) q hq ((a6 q hq).2 z)
        have hsp : s ≠ p := fun z => hR (by rw [z]; exact h93)
        obtain ⟨j1, j2, j3, j4, j5⟩ := i8 s hs hsp
        obtain ⟨u1, u2⟩ := (a6 s hs).1 hR
        refine ⟨by rw [(c_fA A').c (t := 92) (by decide), j1]; exact u1, fun n k t hn en hk ht e84 => ?_⟩
        rw [(c_83 A' hs).1, j2] at en
        rw [(c_fA A').c (t := 84) (by decide), (j5 k (by omega)).1] at e84
        obtain ⟨v1, v2, v3⟩ := u2 n k hn en hk t ht e84
        have htp : t ≠ p := fun z => v1 (by rw [z]; exact h93)
        refine ⟨v1, ?_, ?_⟩
        · rw [(c_fA A').c (t := 96) (by decide), (c_fA A').c (t := 85) (by decide), (i8 t ht htp).2.2.2.1, (j5 k (by omega)).2.1]
          exact v2
        · rw [(c_fA A').c (t := 96) (by decide), (c_fA A').c (t := 86) (by decide), (i8 t ht htp).2.2.2.1, (j5 k (by omega)).2.2]
          exact v3
    · refine a11.cl (fun k => ?_) (fun k => ?_) (fun k _ => ?_) ?_
      · rw [o5, fI3.c (t := 10) (by decide)]
      · rw [o6, fI3.c (t := 81) (by decide)]
      · rw [o3.c (t := 114) (by decide), fA3.c (t := 114) (by decide)]
      · rw [o4 41 (by decide), x11 41 (by decide)]
  obtain ⟨-, -, -, -, -, -, -, -, -, -, e97, -, e1'⟩ := k4 p hp
  unfold f74
  rw [e97]
  rcases e1' with z | z
  · rw [if_pos z, if_neg (by rw [z]; decide)]
    exact Rl.ret ⟨rfl, sim⟩
  · rw [if_neg (fun q => by rw [q] at z; exact absurd z (by decide)), if_pos z]
    exact Rl.ret ⟨rfl, sim⟩
