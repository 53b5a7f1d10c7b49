theorem ds_ext {B : Nat} {d : Nat → Nat} {la m : Nat} (h : la ≤ m) : ds B (fun k => if k < la then d k else 0) m = ds B d la := by
  obtain ⟨r, rfl⟩ := Nat.exists_eq_add_of_le h
  rw [ds_split, ds_cong (d := fun k => if k < la then d k else 0) (e := d) (n := la) (fun k hk => by simp [hk]), ds_zero (d := fun i => if la + i < la then d (la + i) else 0) (fun k hk => if_neg (by omega))]
  simp
theorem dW_upd (f : Nat → Int32) (k : Nat) (v : Int32) : dW (upd f k v) = fun i => if i = k then un v else dW f i := by
  funext i
  unfold dW
  by_cases h : i = k
  · subst h; rw [pk_us, if_pos rfl]
  · rw [pk_un h, if_neg h]
theorem ds_updt (B : Nat) (f : Nat → Int32) (i : Nat) (v : Int32) : ds B (dW (upd f i v)) (i + 1) = ds B (dW f) i + un v * B ^ i := by
  rw [ds_succ, dW_upd, ds_cong (e := dW f) (fun k hk => by rw [if_neg (by omega)])]
  simp
theorem ds_updo {B : Nat} {f : Nat → Int32} {i n : Nat} {v : Int32} (h : n ≤ i) : ds B (dW (upd f i v)) n = ds B (dW f) n := ds_cong (fun k hk => by rw [dW_upd]; exact if_neg (by omega))
theorem carry_step {B P v c s : Nat} (h : s = v + c * B) : v * P + c * (P * B) = s * P := by
  subst h
  rw [Nat.add_mul, Nat.mul_assoc, Nat.mul_comm B P]
theorem un_dm (s : Nat) : s = un (nI s) + s / 4294967296 * 4294967296 := by rw [un_nI]; omega
theorem s_sumSizes {h : HP} {w a b la lb : Nat} {Φ : HP → Prop} (hw : kd w = (0, 0)) (ha : kd a = (0, 0)) (hb : kd b = (0, 0)) (hla : h a 1 = nI la) (hlb : h b 1 = nI lb) (la3 : la ≤ 43) (lb3 : lb ≤ 43) (hs : h w 2 = 0 ∨ h w 2 = 1)
    (K : ∀ h2, Fr [w, w + 1] h h2 → WN h2 w (if h w 2 = 0 then ((ds 4294967296 (dW (h (a + 1))) la + ds 4294967296 (dW (h (b + 1))) lb : Nat) : Int) else -((ds 4294967296 (dW (h (a + 1))) la + ds 4294967296 (dW (h (b + 1))) lb : Nat) : Int)) → Φ h2) : K_Wh_setSumOfSizes [.ref w, .ref a, .ref b] h Φ := by
  refine I_Wh_setSumOfSizes (fun X C Rm Q => ?_)
  refine g_Wh_setSumOfSizes_0 C Rm Q hw ha hb ?_
  have hm : (if h a 1 < h b 1 then h b 1 else h a 1) = nI (max la lb) := by
    rw [hla, hlb]
    by_cases q : la < lb
    · rw [if_pos ((nI_ltI (by omega) (by omega)).mpr q), Nat.max_eq_right (by omega)]
    · rw [if_neg (fun z => q ((nI_ltI (by omega) (by omega)).mp z)), Nat.max_eq_left (by omega)]
  rw [hm]
  have haw : a ≠ w + 1 := kd_ne ha (kWh1 hw) (by omega)
  have hbw : b ≠ w + 1 := kd_ne hb (kWh1 hw) (by omega)
  generalize hda : (fun k => if k < la then dW (h (a + 1)) k else 0) = da
  generalize hdb : (fun k => if k < lb then dW (h (b + 1)) k else 0) = db
  have eda : ∀ k, (if k < la then dW (h (a + 1)) k else 0) = da k := fun k => by rw [← hda]
  have edb : ∀ k, (if k < lb then dW (h (b + 1)) k else 0) = db k := fun k => by rw [← hdb]
  have loop : ∀ (r i c : Nat) (h0 : HP), r + i = max la lb → Fr [w + 1] h h0 → (∀ j, i ≤ j → h0 (w + 1) j = h (w + 1) j) → c ≤ 1 → ds 4294967296 (dW (h0 (w + 1))) i + c * 4294967296 ^ i = ds 4294967296 da i + ds 4294967296 db i →
      Wg X 0 0 h0 [(0, .ref w), (1, .ref a), (2, .ref b), (3, .int (nI (max la lb))), (4, .long (lN c)), (6, .int (nI i))] [] 18 := by
    intro r
    induction r with
    | zero =>
      intro i c h0 hr f hj hc hv
      refine g_Wh_setSumOfSizes_18 C Rm Q hw ha hb ⟨fun _ => ⟨vp_in_nI (by omega) (by omega), ?_⟩, fun q => absurd ((nI_leI (by omega) (by omega)).mpr (by omega)) q⟩
      rw [nI_cl (by omega), lN_i, nI_1]
      have e2 : up h0 (w + 1) (max la lb) (nI c) w 2 = h w 2 := by rw [up_ne (by omega), f w (by simp)]
      refine s_trim hw (by omega) (by rw [e2]; exact hs) (fun h2 f2 W2 => K h2 (((f.up (by simp)).mono (by simp)).trans (f2.mono (by simp))) ?_)
      have e3 : ds 4294967296 (dW (up h0 (w + 1) (max la lb) (nI c) (w + 1))) (max la lb + 1) = ds 4294967296 (dW (h (a + 1))) la + ds 4294967296 (dW (h (b + 1))) lb := by
        rw [up_self, ds_updt, un_nIl (by omega)]
        rw [show i = max la lb by omega] at hv
        rw [hv, ← hda, ← hdb, ds_ext (by omega), ds_ext (by omega)]
      rw [e2, e3] at W2
      exact W2
    | succ r ih =>
      intro i c h0 hr f hj hc hv
      refine g_Wh_setSumOfSizes_18 C Rm Q hw ha hb ⟨fun q => absurd ((nI_leI (by omega) (by omega)).mp q) (by omega), fun _ => ?_⟩
      have ra : ∀ x, x ≠ w + 1 → h0 (x + 1) i = h (x + 1) i := fun x hx => by
        by_cases e : x + 1 = w + 1
        · rw [e]; exact hj i (Nat.le_refl _)
        · exact congrFun (f (x + 1) (by simpa using e)) i
      have rl : ∀ x, x ≠ w + 1 → h0 x 1 = h x 1 := fun x hx => congrFun (f x (by simpa using hx)) 1
      refine s_wordAt ha ((rl a haw).trans hla) (by omega) (by omega) (s_wordAt hb ((rl b hbw).trans hlb) (by omega) (by omega) ?_)
      have ea : (if i < la then dW (h0 (a + 1)) i else 0) = da i := by rw [← eda]; unfold dW; rw [ra a haw]
      have eb : (if i < lb then dW (h0 (b + 1)) i else 0) = db i := by rw [← edb]; unfold dW; rw [ra b hbw]
      rw [ea, eb]
      have la2 : da i < 4294967296 := by rw [← eda]; split; exact dW_lt _ _; omega
      have lb2 : db i < 4294967296 := by rw [← edb]; split; exact dW_lt _ _; omega
      refine ⟨vp_in_nI (by omega) (by omega), ?_⟩
      rw [lN_add, lN_add, lN_i, nI_cl (by omega), l32, lushr_lN (by omega) (by omega), nI_1]
      refine ih (i + 1) ((c + (da i + db i)) / 4294967296) _ (by omega) (f.up (by simp)) (fun j hj2 => by rw [up_at_ne (by omega)]; exact hj j (by omega)) (by omega) ?_
      rw [up_self, ds_updt, ds_succ, ds_succ, Nat.pow_succ]
      have := carry_step (P := 4294967296 ^ i) (un_dm (c + (da i + db i)))
      rw [Nat.add_mul, Nat.add_mul] at this
      omega
  exact loop _ 0 0 h (Nat.add_zero _) (Fr.rf _ _) (fun _ _ => rfl) (by omega) (by simp [ds_0])
theorem s_diffSizes {h : HP} {w a b la lb : Nat} {Φ : HP → Prop} (hw : kd w = (0, 0)) (ha : kd a = (0, 0)) (hb : kd b = (0, 0)) (hla : h a 1 = nI la) (hlb : h b 1 = nI lb) (la3 : la ≤ 44) (lb3 : lb ≤ la) (hle : ds 4294967296 (dW (h (b + 1))) lb ≤ ds 4294967296 (dW (h (a + 1))) la) (hs : h w 2 = 0 ∨ h w 2 = 1)
    (K : ∀ h2, Fr [w, w + 1] h h2 → WN h2 w (if h w 2 = 0 then ((ds 4294967296 (dW (h (a + 1))) la - ds 4294967296 (dW (h (b + 1))) lb : Nat) : Int) else -((ds 4294967296 (dW (h (a + 1))) la - ds 4294967296 (dW (h (b + 1))) lb : Nat) : Int)) → Φ h2) : K_Wh_setDifferenceOfSizes [.ref w, .ref a, .ref b] h Φ := by
  refine I_Wh_setDifferenceOfSizes (fun X C Rm Q => ?_)
  refine g_Wh_setDifferenceOfSizes_0 C Rm Q hw ha hb ?_
  rw [hla]
  have haw : a ≠ w + 1 := kd_ne ha (kWh1 hw) (by omega)
  have hbw : b ≠ w + 1 := kd_ne hb (kWh1 hw) (by omega)
  generalize hda : dW (h (a + 1)) = da at hle K ⊢
  generalize hdb : (fun k => if k < lb then dW (h (b + 1)) k else 0) = db
  have edb : ∀ k, (if k < lb then dW (h (b + 1)) k else 0) = db k := fun k => by rw [← hdb]
  have loop : ∀ (r i c : Nat) (h0 : HP), r + i = la → Fr [w + 1] h h0 → (∀ j, i ≤ j → h0 (w + 1) j = h (w + 1) j) → c ≤ 1 → ds 4294967296 (dW (h0 (w + 1))) i + ds 4294967296 db i = ds 4294967296 da i + c * 4294967296 ^ i →
      Wg X 0 0 h0 [(0, .ref w), (1, .ref a), (2, .ref b), (3, .int (nI la)), (4, .long (lN c)), (6, .int (nI i))] [] 11 := by
    intro r
    induction r with
    | zero =>
      intro i c h0 hr f hj hc hv
      refine g_Wh_setDifferenceOfSizes_11 C Rm Q hw ha hb ⟨fun _ => ?_, fun q => absurd ((nI_leI (by omega) (by omega)).mpr (by omega)) q⟩
      have e2 : h0 w 2 = h w 2 := by rw [f w (by simp)]
      refine s_trim hw la3 (by rw [e2]; exact hs) (fun h2 f2 W2 => K h2 ((f.mono (by simp)).trans (f2.mono (by simp))) ?_)
      have e3 : ds 4294967296 (dW (h0 (w + 1))) la = ds 4294967296 da la - ds 4294967296 (dW (h (b + 1))) lb := by
        have hlt := ds_lt (B := 4294967296) (d := dW (h0 (w + 1))) (n := la) (fun k _ => dW_lt _ _)
        rw [show i = la by omega, ← hdb, ds_ext lb3] at hv
        have : c = 0 := by
          rcases (show c = 0 ∨ c = 1 by omega) with q | q
          · exact q
          · subst q
            rw [Nat.one_mul] at hv
            omega
        subst this
        omega
      rw [e2, e3] at W2
      exact W2
    | succ r ih =>
      intro i c h0 hr f hj hc hv
      refine g_Wh_setDifferenceOfSizes_11 C Rm Q hw ha hb ⟨fun q => absurd ((nI_leI (by omega) (by omega)).mp q) (by omega), fun _ => ?_⟩
      have ra : ∀ x, x ≠ w + 1 → h0 (x + 1) i = h (x + 1) i := fun x hx => by
        by_cases e : x + 1 = w + 1
        · rw [e]; exact hj i (Nat.le_refl _)
        · exact congrFun (f (x + 1) (by simpa using e)) i
      have rl : ∀ x, x ≠ w + 1 → h0 x 1 = h x 1 := fun x hx => congrFun (f x (by simpa using hx)) 1
      refine s_wordAt ha ((rl a haw).trans hla) (by omega) (by omega) (s_wordAt hb ((rl b hbw).trans hlb) (by omega) (by omega) ?_)
      have ea : (if i < la then dW (h0 (a + 1)) i else 0) = da i := by rw [if_pos (by omega), ← hda]; unfold dW; rw [ra a haw]
      have eb : (if i < lb then dW (h0 (b + 1)) i else 0) = db i := by rw [← edb]; unfold dW; rw [ra b hbw]
      rw [ea, eb]
      have la2 : da i < 4294967296 := by rw [← hda]; exact dW_lt _ _
      have lb2 : db i < 4294967296 := by rw [← edb]; split; exact dW_lt _ _; omega
      have step : ∀ (c2 v : Nat), c2 ≤ 1 → v < 4294967296 → v + db i + c = da i + c2 * 4294967296 → Int64.toInt32 (lN (da i) - lN (db i) - lN c) = nI v → Wg X 0 0 (up h0 (w + 1) i (nI v)) [(0, .ref w), (1, .ref a), (2, .ref b), (3, .int (nI la)), (4, .long (lN c2)), (6, .int (nI (i + 1)))] [] 11 := by
        intro c2 v g1 g2 g3 g4
        refine ih (i + 1) c2 _ (by omega) (f.up (by simp)) (fun j hj2 => by rw [up_at_ne (by omega)]; exact hj j (by omega)) g1 ?_
        rw [up_self, ds_updt, ds_succ, ds_succ, Nat.pow_succ, un_nIl g2]
        have e1 : (v + db i + c) * 4294967296 ^ i = (da i + c2 * 4294967296) * 4294967296 ^ i := by rw [g3]
        rw [Nat.add_mul, Nat.add_mul, Nat.add_mul, Nat.mul_assoc, Nat.mul_comm 4294967296] at e1
        omega
      refine ⟨vp_in_nI (by omega) (by omega), ?_⟩
      rw [nI_cl (by omega), nI_1, lg_cmp_ge]
      have big : ∀ x y z : Nat, x < 4294967296 → y < 4294967296 → z ≤ 1 → (lN x - lN y - lN z).toInt = (x : Int) - y - z := by
        intro x y z hx hy hz
        have e1 := pf_lI (a := x) (by omega)
        have e2 := pf_lI (a := y) (by omega)
        have e3 := pf_lI (a := z) (by omega)
        rw [fb_subL (by rw [fb_subL (by omega) (by omega)]; omega) (by rw [fb_subL (by omega) (by omega)]; omega), fb_subL (by omega) (by omega), e1, e2, e3]
      have e0 := big (da i) (db i) c la2 lb2 hc
      have lo : un (Int64.toInt32 (lN (da i) - lN (db i) - lN c)) = uN (lN (da i) - lN (db i) - lN c) % 4294967296 := by
        have q := uN_lt (lN (da i) - lN (db i) - lN c)
        have et : (lN (da i) - lN (db i) - lN c) = lN (uN (lN (da i) - lN (db i) - lN c)) := uN_inj (by rw [show uN (lN (uN (lN (da i) - lN (db i) - lN c))) = (lN (uN (lN (da i) - lN (db i) - lN c))).toBitVec.toNat from rfl, wb_tn q])
        rw [et, lN_i, un_nI, ← et]
      have hu := uN_int (lN (da i) - lN (db i) - lN c)
      have hu2 := uN_lt (lN (da i) - lN (db i) - lN c)
      rw [e0] at hu
      refine ⟨fun q => ?_, fun q => ?_⟩
      · rw [Int64.le_iff_toInt_le, e0] at q
        have q2 : (0 : Int) ≤ (da i : Int) - db i - c := q
        have e4 : Int64.toInt32 (lN (da i) - lN (db i) - lN c) = nI (da i - db i - c) := nI_is (by rw [lo]; split at hu <;> omega)
        rw [e4]
        exact step 0 (da i - db i - c) (by omega) (by omega) (by omega) e4
      · rw [Int64.le_iff_toInt_le, e0] at q
        have q2 : ¬ (0 : Int) ≤ (da i : Int) - db i - c := q
        have e4 : Int64.toInt32 (lN (da i) - lN (db i) - lN c) = nI (da i + 4294967296 - db i - c) := nI_is (by rw [lo]; split at hu <;> omega)
        rw [e4]
        exact step 1 (da i + 4294967296 - db i - c) (by omega) (by omega) (by omega) e4
  exact loop _ 0 0 h (Nat.add_zero _) (Fr.rf _ _) (fun _ _ => rfl) (by omega) (by simp [ds_0])
theorem s_setSum {h : HP} {w a b : Nat} {x y : Int} {Φ : HP → Prop} (hw : kd w = (0, 0)) (ha : kd a = (0, 0)) (hb : kd b = (0, 0)) (hx : WN h a x) (hy : WN h b y) (la3 : gc 32 x.natAbs ≤ 43) (lb3 : gc 32 y.natAbs ≤ 43) (K : ∀ h2, Fr [w, w + 1] h h2 → WN h2 w (x + y) → Φ h2) : K_Wh_setSum [.ref w, .ref a, .ref b] h Φ := by
  refine I_Wh_setSum (fun X C Rm Q => ?_)
  have hs : (if x < 0 then 1 else 0 : Int32) = (if y < 0 then 1 else 0 : Int32) ↔ (x < 0 ↔ y < 0) := by
    by_cases q1 : x < 0 <;> by_cases q2 : y < 0 <;> simp [q1, q2]
  have haw : a ≠ w + 1 := kd_ne ha (kWh1 hw) (by omega)
  have hbw : b ≠ w + 1 := kd_ne hb (kWh1 hw) (by omega)
  have haw2 : a + 1 ≠ w := kd_ne (kWh1 ha) hw (by omega)
  have hbw2 : b + 1 ≠ w := kd_ne (kWh1 hb) hw (by omega)
  have u1 : ∀ (s : Int32) (q : Nat), up h w 2 s q 1 = h q 1 := fun s q => by
    by_cases e : q = w
    · subst e; rw [up_at_ne (by omega)]
    · rw [up_ne e]
  have u2 : ∀ (s : Int32) (q : Nat), q ≠ w → up h w 2 s q = h q := fun s q e => up_ne e
  refine g_Wh_setSum_0 C Rm Q hw ha hb ⟨fun c => ?_, fun c => ?_⟩
  · rw [hx.sg, hy.sg, hs] at c
    refine s_orderOfSizes ha hb hx hy ⟨fun q => ⟨by rw [hy.sg]; exact sg_01 y, ?_⟩, fun q => ⟨by rw [hx.sg]; exact sg_01 x, ?_⟩⟩
    · have hlt : x.natAbs < y.natAbs := by
        unfold ordN at q
        by_cases z : x.natAbs < y.natAbs
        · exact z
        · rw [if_neg z] at q
          split at q <;> exact absurd q (by decide)
      refine s_diffSizes hw hb ha ((u1 _ _).trans hy.len) ((u1 _ _).trans hx.len) (by omega) (gc_mono (by omega) (by omega)) (by rw [u2 _ _ haw2, u2 _ _ hbw2, hx.val, hy.val]; omega) (by rw [up_at, hy.sg]; exact sg_01 y) (fun h2 f W2 => K h2 (((Fr.rf _ _).up (by simp)).trans f) ?_)
      rw [up_at, u2 _ _ haw2, u2 _ _ hbw2, hx.val, hy.val, hy.sg] at W2
      by_cases z : y < 0
      · rw [if_pos z, if_neg (by decide)] at W2
        rwa [show x + y = -((y.natAbs - x.natAbs : Nat) : Int) by omega]
      · rw [if_neg z, if_pos rfl] at W2
        rwa [show x + y = ((y.natAbs - x.natAbs : Nat) : Int) by omega]
    · have hlt : y.natAbs ≤ x.natAbs := by
        refine Nat.le_of_not_lt (fun z => q ?_)
        unfold ordN
        rw [if_pos z]
        decide
      refine s_diffSizes hw ha hb ((u1 _ _).trans hx.len) ((u1 _ _).trans hy.len) (by omega) (gc_mono (by omega) (by omega)) (by rw [u2 _ _ haw2, u2 _ _ hbw2, hx.val, hy.val]; omega) (by rw [up_at, hx.sg]; exact sg_01 x) (fun h2 f W2 => K h2 (((Fr.rf _ _).up (by simp)).trans f) ?_)
      rw [up_at, u2 _ _ haw2, u2 _ _ hbw2, hx.val, hy.val, hx.sg] at W2
      by_cases z : x < 0
      · rw [if_pos z, if_neg (by decide)] at W2
        rwa [show x + y = -((x.natAbs - y.natAbs : Nat) : Int) by omega]
      · rw [if_neg z, if_pos rfl] at W2
        rwa [show x + y = ((x.natAbs - y.natAbs : Nat) : Int) by omega]
  · rw [hx.sg, hy.sg, hs] at c
    refine ⟨by rw [hx.sg]; exact sg_01 x, ?_⟩
    refine s_sumSizes hw ha hb ((u1 _ _).trans hx.len) ((u1 _ _).trans hy.len) (by omega) (by omega) (by rw [up_at, hx.sg]; exact sg_01 x) (fun h2 f W2 => K h2 (((Fr.rf _ _).up (by simp)).trans f) ?_)
    rw [up_at, u2 _ _ haw2, u2 _ _ hbw2, hx.val, hy.val, hx.sg] at W2
    by_cases z : x < 0
    · rw [if_pos z, if_neg (by decide)] at W2
      rwa [show x + y = -((x.natAbs + y.natAbs : Nat) : Int) by omega]
    · rw [if_neg z, if_pos rfl] at W2
      rwa [show x + y = ((x.natAbs + y.natAbs : Nat) : Int) by omega]
