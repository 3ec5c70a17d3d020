set_option maxRecDepth 100000 in
set_option maxHeartbeats 4000000 in
theorem vl_law_28 {X : MX} {d : Nat} {x : Int64 × UInt64} {m : MI} {Q : MRes → Prop} {u : Nat × Nat} {l5 : Int32} {o6 : Option MV} {o7 : Option MV} {o8 : Option MV} (h : ((((Int32.ofNat X.1) - 6) < l5 → Q (.inl (some (vi 1)), Gu u x m)) ∧ (¬ (((Int32.ofNat X.1) - 6) < l5) → (inb l5 X.1 = true ∧ (((X.2 l5.toNatClampNeg) &&& 63 = 0 → Wp X (d + 1) 322 (284, ([some (vs 0 0), some (vp 0 0), some (vp 31 0), some (vp 43 0), some (vp 44 0), some (vi l5), o6, o7, o8], ([], Gu u x m))) Q) ∧ ((X.2 l5.toNatClampNeg) &&& 63 = 1 → Wp X (d + 1) 322 (376, ([some (vs 0 0), some (vp 0 0), some (vp 31 0), some (vp 43 0), some (vp 44 0), some (vi l5), o6, o7, o8], ([], Gu u x m))) Q) ∧ ((X.2 l5.toNatClampNeg) &&& 63 = 2 → Wp X (d + 1) 322 (480, ([some (vs 0 0), some (vp 0 0), some (vp 31 0), some (vp 43 0), some (vp 44 0), some (vi l5), o6, o7, o8], ([], Gu u x m))) Q) ∧ ((X.2 l5.toNatClampNeg) &&& 63 = 3 → Wp X (d + 1) 322 (536, ([some (vs 0 0), some (vp 0 0), some (vp 31 0), some (vp 43 0), some (vp 44 0), some (vi l5), o6, o7, o8], ([], Gu u x m))) Q) ∧ ((X.2 l5.toNatClampNeg) &&& 63 = 4 → Wp X (d + 1) 322 (592, ([some (vs 0 0), some (vp 0 0), some (vp 31 0), some (vp 43 0), some (vp 44 0), some (vi l5), o6, o7, o8], ([], Gu u x m))) Q) ∧ ((X.2 l5.toNatClampNeg) &&& 63 = 5 → Wp X (d + 1) 322 (650, ([some (vs 0 0), some (vp 0 0), some (vp 31 0), some (vp 43 0), some (vp 44 0), some (vi l5), o6, o7, o8], ([], Gu u x m))) Q) ∧ ((X.2 l5.toNatClampNeg) &&& 63 = 6 → Wp X (d + 1) 322 (718, ([some (vs 0 0), some (vp 0 0), some (vp 31 0), some (vp 43 0), some (vp 44 0), some (vi l5), o6, o7, o8], ([], Gu u x m))) Q) ∧ ((X.2 l5.toNatClampNeg) &&& 63 = 7 → Wp X (d + 1) 322 (731, ([some (vs 0 0), some (vp 0 0), some (vp 31 0), some (vp 43 0), some (vp 44 0), some (vi l5), o6, o7, o8], ([], Gu u x m))) Q) ∧ ((X.2 l5.toNatClampNeg) &&& 63 = 8 → Wp X (d + 1) 322 (799, ([some (vs 0 0), some (vp 0 0), some (vp 31 0), some (vp 43 0), some (vp 44 0), some (vi l5), o6, o7, o8], ([], Gu u x m))) Q) ∧ ((X.2 l5.toNatClampNeg) &&& 63 = 9 → Wp X (d + 1) 322 (855, ([some (vs 0 0), some (vp 0 0), some (vp 31 0), some (vp 43 0), some (vp 44 0), some (vi l5), o6, o7, o8], ([], Gu u x m))) Q) ∧ ((X.2 l5.toNatClampNeg) &&& 63 = 10 → Wp X (d + 1) 322 (868, ([some (vs 0 0), some (vp 0 0), some (vp 31 0), some (vp 43 0), some (vp 44 0), some (vi l5), o6, o7, o8], ([], Gu u x m))) Q) ∧ ((X.2 l5.toNatClampNeg) &&& 63 = 11 → Wp X (d + 1) 322 (924, ([some (vs 0 0), some (vp 0 0), some (vp 31 0), some (vp 43 0), some (vp 44 0), some (vi l5), o6, o7, o8], ([], Gu u x m))) Q) ∧ ((X.2 l5.toNatClampNeg) &&& 63 = 12 → Wp X (d + 1) 322 (980, ([some (vs 0 0), some (vp 0 0), some (vp 31 0), some (vp 43 0), some (vp 44 0), some (vi l5), o6, o7, o8], ([], Gu u x m))) Q) ∧ ((X.2 l5.toNatClampNeg) &&& 63 = 13 → Wp X (d + 1) 322 (1036, ([some (vs 0 0), some (vp 0 0), some (vp 31 0), some (vp 43 0), some (vp 44 0), some (vi l5), o6, o7, o8], ([], Gu u x m))) Q) ∧ ((X.2 l5.toNatClampNeg) &&& 63 = 14 → Wp X (d + 1) 322 (1092, ([some (vs 0 0), some (vp 0 0), some (vp 31 0), some (vp 43 0), some (vp 44 0), some (vi l5), o6, o7, o8], ([], Gu u x m))) Q) ∧ ((X.2 l5.toNatClampNeg) &&& 63 = 15 → Wp X (d + 1) 322 (1148, ([some (vs 0 0), some (vp 0 0), some (vp 31 0), some (vp 43 0), some (vp 44 0), some (vi l5), o6, o7, o8], ([], Gu u x m))) Q) ∧ ((X.2 l5.toNatClampNeg) &&& 63 = 16 → Wp X (d + 1) 322 (1204, ([some (vs 0 0), some (vp 0 0), some (vp 31 0), some (vp 43 0), some (vp 44 0), some (vi l5), o6, o7, o8], ([], Gu u x m))) Q) ∧ ((X.2 l5.toNatClampNeg) &&& 63 = 17 → Wp X (d + 1) 322 (1260, ([some (vs 0 0), some (vp 0 0), some (vp 31 0), some (vp 43 0), some (vp 44 0), some (vi l5), o6, o7, o8], ([], Gu u x m))) Q) ∧ ((X.2 l5.toNatClampNeg) &&& 63 = 18 → Wp X (d + 1) 322 (1316, ([some (vs 0 0), some (vp 0 0), some (vp 31 0), some (vp 43 0), some (vp 44 0), some (vi l5), o6, o7, o8], ([], Gu u x m))) Q) ∧ ((X.2 l5.toNatClampNeg) &&& 63 = 19 → Wp X (d + 1) 322 (1329, ([some (vs 0 0), some (vp 0 0), some (vp 31 0), some (vp 43 0), some (vp 44 0), some (vi l5), o6, o7, o8], ([], Gu u x m))) Q) ∧ ((X.2 l5.toNatClampNeg) &&& 63 = 20 → Wp X (d + 1) 322 (1385, ([some (vs 0 0), some (vp 0 0), some (vp 31 0), some (vp 43 0), some (vp 44 0), some (vi l5), o6, o7, o8], ([], Gu u x m))) Q) ∧ ((X.2 l5.toNatClampNeg) &&& 63 = 21 → Wp X (d + 1) 322 (1441, ([some (vs 0 0), some (vp 0 0), some (vp 31 0), some (vp 43 0), some (vp 44 0), some (vi l5), o6, o7, o8], ([], Gu u x m))) Q) ∧ ((X.2 l5.toNatClampNeg) &&& 63 = 22 → Wp X (d + 1) 322 (1497, ([some (vs 0 0), some (vp 0 0), some (vp 31 0), some (vp 43 0), some (vp 44 0), some (vi l5), o6, o7, o8], ([], Gu u x m))) Q) ∧ ((X.2 l5.toNatClampNeg) &&& 63 = 23 → Wp X (d + 1) 322 (1565, ([some (vs 0 0), some (vp 0 0), some (vp 31 0), some (vp 43 0), some (vp 44 0), some (vi l5), o6, o7, o8], ([], Gu u x m))) Q) ∧ ((X.2 l5.toNatClampNeg) &&& 63 = 24 → Wp X (d + 1) 322 (1640, ([some (vs 0 0), some (vp 0 0), some (vp 31 0), some (vp 43 0), some (vp 44 0), some (vi l5), o6, o7, o8], ([], Gu u x m))) Q) ∧ ((X.2 l5.toNatClampNeg) &&& 63 = 25 → Wp X (d + 1) 322 (1696, ([some (vs 0 0), some (vp 0 0), some (vp 31 0), some (vp 43 0), some (vp 44 0), some (vi l5), o6, o7, o8], ([], Gu u x m))) Q) ∧ ((X.2 l5.toNatClampNeg) &&& 63 = 26 → Wp X (d + 1) 322 (1764, ([some (vs 0 0), some (vp 0 0), some (vp 31 0), some (vp 43 0), some (vp 44 0), some (vi l5), o6, o7, o8], ([], Gu u x m))) Q) ∧ ((X.2 l5.toNatClampNeg) &&& 63 = 27 → Wp X (d + 1) 322 (1844, ([some (vs 0 0), some (vp 0 0), some (vp 31 0), some (vp 43 0), some (vp 44 0), some (vi l5), o6, o7, o8], ([], Gu u x m))) Q) ∧ ((X.2 l5.toNatClampNeg) &&& 63 = 28 → Wp X (d + 1) 322 (1924, ([some (vs 0 0), some (vp 0 0), some (vp 31 0), some (vp 43 0), some (vp 44 0), some (vi l5), o6, o7, o8], ([], Gu u x m))) Q) ∧ ((X.2 l5.toNatClampNeg) &&& 63 = 29 → Wp X (d + 1) 322 (1968, ([some (vs 0 0), some (vp 0 0), some (vp 31 0), some (vp 43 0), some (vp 44 0), some (vi l5), o6, o7, o8], ([], Gu u x m))) Q) ∧ ((X.2 l5.toNatClampNeg) &&& 63 = 30 → Wp X (d + 1) 322 (2012, ([some (vs 0 0), some (vp 0 0), some (vp 31 0), some (vp 43 0), some (vp 44 0), some (vi l5), o6, o7, o8], ([], Gu u x m))) Q) ∧ ((X.2 l5.toNatClampNeg) &&& 63 = 31 → Wp X (d + 1) 322 (2025, ([some (vs 0 0), some (vp 0 0), some (vp 31 0), some (vp 43 0), some (vp 44 0), some (vi l5), o6, o7, o8], ([], Gu u x m))) Q) ∧ ((X.2 l5.toNatClampNeg) &&& 63 = 32 → Wp X (d + 1) 322 (2038, ([some (vs 0 0), some (vp 0 0), some (vp 31 0), some (vp 43 0), some (vp 44 0), some (vi l5), o6, o7, o8], ([], Gu u x m))) Q) ∧ ((X.2 l5.toNatClampNeg) &&& 63 = 33 → Wp X (d + 1) 322 (2051, ([some (vs 0 0), some (vp 0 0), some (vp 31 0), some (vp 43 0), some (vp 44 0), some (vi l5), o6, o7, o8], ([], Gu u x m))) Q) ∧ ((X.2 l5.toNatClampNeg) &&& 63 = 34 → Wp X (d + 1) 322 (2107, ([some (vs 0 0), some (vp 0 0), some (vp 31 0), some (vp 43 0), some (vp 44 0), some (vi l5), o6, o7, o8], ([], Gu u x m))) Q) ∧ ((X.2 l5.toNatClampNeg) &&& 63 = 35 → Wp X (d + 1) 322 (2163, ([some (vs 0 0), some (vp 0 0), some (vp 31 0), some (vp 43 0), some (vp 44 0), some (vi l5), o6, o7, o8], ([], Gu u x m))) Q) ∧ ((X.2 l5.toNatClampNeg) &&& 63 = 36 → Wp X (d + 1) 322 (2219, ([some (vs 0 0), some (vp 0 0), some (vp 31 0), some (vp 43 0), some (vp 44 0), some (vi l5), o6, o7, o8], ([], Gu u x m))) Q) ∧ ((X.2 l5.toNatClampNeg) &&& 63 = 37 → Wp X (d + 1) 322 (2287, ([some (vs 0 0), some (vp 0 0), some (vp 31 0), some (vp 43 0), some (vp 44 0), some (vi l5), o6, o7, o8], ([], Gu u x m))) Q) ∧ ((X.2 l5.toNatClampNeg) &&& 63 = 38 → Wp X (d + 1) 322 (2300, ([some (vs 0 0), some (vp 0 0), some (vp 31 0), some (vp 43 0), some (vp 44 0), some (vi l5), o6, o7, o8], ([], Gu u x m))) Q) ∧ ((X.2 l5.toNatClampNeg) &&& 63 = 39 → Wp X (d + 1) 322 (2313, ([some (vs 0 0), some (vp 0 0), some (vp 31 0), some (vp 43 0), some (vp 44 0), some (vi l5), o6, o7, o8], ([], Gu u x m))) Q) ∧ ((X.2 l5.toNatClampNeg) &&& 63 = 40 → Wp X (d + 1) 322 (2326, ([some (vs 0 0), some (vp 0 0), some (vp 31 0), some (vp 43 0), some (vp 44 0), some (vi l5), o6, o7, o8], ([], Gu u x m))) Q) ∧ ((X.2 l5.toNatClampNeg) &&& 63 = 41 → Wp X (d + 1) 322 (2339, ([some (vs 0 0), some (vp 0 0), some (vp 31 0), some (vp 43 0), some (vp 44 0), some (vi l5), o6, o7, o8], ([], Gu u x m))) Q) ∧ ((X.2 l5.toNatClampNeg) &&& 63 = 42 → Wp X (d + 1) 322 (2352, ([some (vs 0 0), some (vp 0 0), some (vp 31 0), some (vp 43 0), some (vp 44 0), some (vi l5), o6, o7, o8], ([], Gu u x m))) Q) ∧ ((X.2 l5.toNatClampNeg) &&& 63 = 43 → Wp X (d + 1) 322 (2417, ([some (vs 0 0), some (vp 0 0), some (vp 31 0), some (vp 43 0), some (vp 44 0), some (vi l5), o6, o7, o8], ([], Gu u x m))) Q) ∧ ((X.2 l5.toNatClampNeg) &&& 63 = 44 → Wp X (d + 1) 322 (2483, ([some (vs 0 0), some (vp 0 0), some (vp 31 0), some (vp 43 0), some (vp 44 0), some (vi l5), o6, o7, o8], ([], Gu u x m))) Q) ∧ ((X.2 l5.toNatClampNeg) &&& 63 = 45 → Wp X (d + 1) 322 (2496, ([some (vs 0 0), some (vp 0 0), some (vp 31 0), some (vp 43 0), some (vp 44 0), some (vi l5), o6, o7, o8], ([], Gu u x m))) Q) ∧ ((X.2 l5.toNatClampNeg) &&& 63 = 46 → Wp X (d + 1) 322 (2552, ([some (vs 0 0), some (vp 0 0), some (vp 31 0), some (vp 43 0), some (vp 44 0), some (vi l5), o6, o7, o8], ([], Gu u x m))) Q) ∧ ((X.2 l5.toNatClampNeg) &&& 63 = 47 → Wp X (d + 1) 322 (2608, ([some (vs 0 0), some (vp 0 0), some (vp 31 0), some (vp 43 0), some (vp 44 0), some (vi l5), o6, o7, o8], ([], Gu u x m))) Q) ∧ ((X.2 l5.toNatClampNeg) &&& 63 = 48 → Wp X (d + 1) 322 (2664, ([some (vs 0 0), some (vp 0 0), some (vp 31 0), some (vp 43 0), some (vp 44 0), some (vi l5), o6, o7, o8], ([], Gu u x m))) Q) ∧ ((X.2 l5.toNatClampNeg) &&& 63 = 49 → Wp X (d + 1) 322 (2722, ([some (vs 0 0), some (vp 0 0), some (vp 31 0), some (vp 43 0), some (vp 44 0), some (vi l5), o6, o7, o8], ([], Gu u x m))) Q) ∧ ((X.2 l5.toNatClampNeg) &&& 63 = 50 → Wp X (d + 1) 322 (2766, ([some (vs 0 0), some (vp 0 0), some (vp 31 0), some (vp 43 0), some (vp 44 0), some (vi l5), o6, o7, o8], ([], Gu u x m))) Q) ∧ ((X.2 l5.toNatClampNeg) &&& 63 = 51 → Wp X (d + 1) 322 (2810, ([some (vs 0 0), some (vp 0 0), some (vp 31 0), some (vp 43 0), some (vp 44 0), some (vi l5), o6, o7, o8], ([], Gu u x m))) Q) ∧ ((X.2 l5.toNatClampNeg) &&& 63 = 52 → Wp X (d + 1) 322 (2854, ([some (vs 0 0), some (vp 0 0), some (vp 31 0), some (vp 43 0), some (vp 44 0), some (vi l5), o6, o7, o8], ([], Gu u x m))) Q) ∧ ((X.2 l5.toNatClampNeg) &&& 63 = 53 → Wp X (d + 1) 322 (2898, ([some (vs 0 0), some (vp 0 0), some (vp 31 0), some (vp 43 0), some (vp 44 0), some (vi l5), o6, o7, o8], ([], Gu u x m))) Q) ∧ ((X.2 l5.toNatClampNeg) &&& 63 = 54 → Wp X (d + 1) 322 (2942, ([some (vs 0 0), some (vp 0 0), some (vp 31 0), some (vp 43 0), some (vp 44 0), some (vi l5), o6, o7, o8], ([], Gu u x m))) Q) ∧ ((X.2 l5.toNatClampNeg) &&& 63 = 55 → Wp X (d + 1) 322 (2955, ([some (vs 0 0), some (vp 0 0), some (vp 31 0), some (vp 43 0), some (vp 44 0), some (vi l5), o6, o7, o8], ([], Gu u x m))) Q) ∧ ((¬ (X.2 l5.toNatClampNeg) &&& 63 = 0 ∧ ¬ (X.2 l5.toNatClampNeg) &&& 63 = 1 ∧ ¬ (X.2 l5.toNatClampNeg) &&& 63 = 2 ∧ ¬ (X.2 l5.toNatClampNeg) &&& 63 = 3 ∧ ¬ (X.2 l5.toNatClampNeg) &&& 63 = 4 ∧ ¬ (X.2 l5.toNatClampNeg) &&& 63 = 5 ∧ ¬ (X.2 l5.toNatClampNeg) &&& 63 = 6 ∧ ¬ (X.2 l5.toNatClampNeg) &&& 63 = 7 ∧ ¬ (X.2 l5.toNatClampNeg) &&& 63 = 8 ∧ ¬ (X.2 l5.toNatClampNeg) &&& 63 = 9 ∧ ¬ (X.2 l5.toNatClampNeg) &&& 63 = 10 ∧ ¬ (X.2 l5.toNatClampNeg) &&& 63 = 11 ∧ ¬ (X.2 l5.toNatClampNeg) &&& 63 = 12 ∧ ¬ (X.2 l5.toNatClampNeg) &&& 63 = 13 ∧ ¬ (X.2 l5.toNatClampNeg) &&& 63 = 14 ∧ ¬ (X.2 l5.toNatClampNeg) &&& 63 = 15 ∧ ¬ (X.2 l5.toNatClampNeg) &&& 63 = 16 ∧ ¬ (X.2 l5.toNatClampNeg) &&& 63 = 17 ∧ ¬ (X.2 l5.toNatClampNeg) &&& 63 = 18 ∧ ¬ (X.2 l5.toNatClampNeg) &&& 63 = 19 ∧ ¬ (X.2 l5.toNatClampNeg) &&& 63 = 20 ∧ ¬ (X.2 l5.toNatClampNeg) &&& 63 = 21 ∧ ¬ (X.2 l5.toNatClampNeg) &&& 63 = 22 ∧ ¬ (X.2 l5.toNatClampNeg) &&& 63 = 23 ∧ ¬ (X.2 l5.toNatClampNeg) &&& 63 = 24 ∧ ¬ (X.2 l5.toNatClampNeg) &&& 63 = 25 ∧ ¬ (X.2 l5.toNatClampNeg) &&& 63 = 26 ∧ ¬ (X.2 l5.toNatClampNeg) &&& 63 = 27 ∧ ¬ (X.2 l5.toNatClampNeg) &&& 63 = 28 ∧ ¬ (X.2 l5.toNatClampNeg) &&& 63 = 29 ∧ ¬ (X.2 l5.toNatClampNeg) &&& 63 = 30 ∧ ¬ (X.2 l5.toNatClampNeg) &&& 63 = 31 ∧ ¬ (X.2 l5.toNatClampNeg) &&& 63 = 32 ∧ ¬ (X.2 l5.toNatClampNeg) &&& 63 = 33 ∧ ¬ (X.2 l5.toNatClampNeg) &&& 63 = 34 ∧ ¬ (X.2 l5.toNatClampNeg) &&& 63 = 35 ∧ ¬ (X.2 l5.toNatClampNeg) &&& 63 = 36 ∧ ¬ (X.2 l5.toNatClampNeg) &&& 63 = 37 ∧ ¬ (X.2 l5.toNatClampNeg) &&& 63 = 38 ∧ ¬ (X.2 l5.toNatClampNeg) &&& 63 = 39 ∧ ¬ (X.2 l5.toNatClampNeg) &&& 63 = 40 ∧ ¬ (X.2 l5.toNatClampNeg) &&& 63 = 41 ∧ ¬ (X.2 l5.toNatClampNeg) &&& 63 = 42 ∧ ¬ (X.2 l5.toNatClampNeg) &&& 63 = 43 ∧ ¬ (X.2 l5.toNatClampNeg) &&& 63 = 44 ∧ ¬ (X.2 l5.toNatClampNeg) &&& 63 = 45 ∧ ¬ (X.2 l5.toNatClampNeg) &&& 63 = 46 ∧ ¬ (X.2 l5.toNatClampNeg) &&& 63 = 47 ∧ ¬ (X.2 l5.toNatClampNeg) &&& 63 = 48 ∧ ¬ (X.2 l5.toNatClampNeg) &&& 63 = 49 ∧ ¬ (X.2 l5.toNatClampNeg) &&& 63 = 50 ∧ ¬ (X.2 l5.toNatClampNeg) &&& 63 = 51 ∧ ¬ (X.2 l5.toNatClampNeg) &&& 63 = 52 ∧ ¬ (X.2 l5.toNatClampNeg) &&& 63 = 53 ∧ ¬ (X.2 l5.toNatClampNeg) &&& 63 = 54 ∧ ¬ (X.2 l5.toNatClampNeg) &&& 63 = 55) → Wp X (d + 1) 322 (2999, ([some (vs 0 0), some (vp 0 0), some (vp 31 0), some (vp 43 0), some (vp 44 0), some (vi l5), o6, o7, o8], ([], Gu u x m))) Q)))))) : Wp X (d + 1) 322 (28, ([some (vs 0 0), some (vp 0 0), some (vp 31 0), some (vp 43 0), some (vp 44 0), some (vi l5), o6, o7, o8], ([], Gu u x m))) Q := by
  refine wp_run 6 true ((bif decide (((Int32.ofNat X.1) - 6) < l5) then 3005 else 38), ([some (vs 0 0), some (vp 0 0), some (vp 31 0), some (vp 43 0), some (vp 44 0), some (vi l5), o6, o7, o8], ([], Gu u x m))) rfl rfl ?_
  refine wp_if (((Int32.ofNat X.1) - 6) < l5) (fun c1 => ?_) (fun c1 => ?_)
  · have h := h.1 c1
    refine wp_run 1 true (3006, ([some (vs 0 0), some (vp 0 0), some (vp 31 0), some (vp 43 0), some (vp 44 0), some (vi l5), o6, o7, o8], ([vi 1], Gu u x m))) rfl rfl ?_
    exact wp_ret rfl h
  · have h := h.2 c1
    obtain ⟨hg2_0, h⟩ := h
    refine wp_run 6 (inb l5 X.1 && true) ((swt 45 2954 0 55 #[239, 331, 435, 491, 547, 605, 673, 686, 754, 810, 823, 879, 935, 991, 1047, 1103, 1159, 1215, 1271, 1284, 1340, 1396, 1452, 1520, 1595, 1651, 1719, 1799, 1879, 1923, 1967, 1980, 1993, 2006, 2062, 2118, 2174, 2242, 2255, 2268, 2281, 2294, 2307, 2372, 2438, 2451, 2507, 2563, 2619, 2677, 2721, 2765, 2809, 2853, 2897, 2910] ((X.2 l5.toNatClampNeg) &&& 63)), ([some (vs 0 0), some (vp 0 0), some (vp 31 0), some (vp 43 0), some (vp 44 0), some (vi l5), o6, o7, o8], ([], Gu u x m))) rfl (and_t hg2_0 rfl) ?_
    by_cases c2_0 : (X.2 l5.toNatClampNeg) &&& 63 = 0
    · refine wp_pc (p2 := 284) (by rw [c2_0]; rfl) ?_
      have h := h.1 c2_0
      exact h
    by_cases c2_1 : (X.2 l5.toNatClampNeg) &&& 63 = 1
    · refine wp_pc (p2 := 376) (by rw [c2_1]; rfl) ?_
      have h := h.2.1 c2_1
      exact h
    by_cases c2_2 : (X.2 l5.toNatClampNeg) &&& 63 = 2
    · refine wp_pc (p2 := 480) (by rw [c2_2]; rfl) ?_
      have h := h.2.2.1 c2_2
      exact h
    by_cases c2_3 : (X.2 l5.toNatClampNeg) &&& 63 = 3
    · refine wp_pc (p2 := 536) (by rw [c2_3]; rfl) ?_
      have h := h.2.2.2.1 c2_3
      exact h
    by_cases c2_4 : (X.2 l5.toNatClampNeg) &&& 63 = 4
    · refine wp_pc (p2 := 592) (by rw [c2_4]; rfl) ?_
      have h := h.2.2.2.2.1 c2_4
      exact h
    by_cases c2_5 : (X.2 l5.toNatClampNeg) &&& 63 = 5
    · refine wp_pc (p2 := 650) (by rw [c2_5]; rfl) ?_
      have h := h.2.2.2.2.2.1 c2_5
      exact h
    by_cases c2_6 : (X.2 l5.toNatClampNeg) &&& 63 = 6
    · refine wp_pc (p2 := 718) (by rw [c2_6]; rfl) ?_
      have h := h.2.2.2.2.2.2.1 c2_6
      exact h
    by_cases c2_7 : (X.2 l5.toNatClampNeg) &&& 63 = 7
    · refine wp_pc (p2 := 731) (by rw [c2_7]; rfl) ?_
      have h := h.2.2.2.2.2.2.2.1 c2_7
      exact h
    by_cases c2_8 : (X.2 l5.toNatClampNeg) &&& 63 = 8
    · refine wp_pc (p2 := 799) (by rw [c2_8]; rfl) ?_
      have h := h.2.2.2.2.2.2.2.2.1 c2_8
      exact h
    by_cases c2_9 : (X.2 l5.toNatClampNeg) &&& 63 = 9
    · refine wp_pc (p2 := 855) (by rw [c2_9]; rfl) ?_
      have h := h.2.2.2.2.2.2.2.2.2.1 c2_9
      exact h
    by_cases c2_10 : (X.2 l5.toNatClampNeg) &&& 63 = 10
    · refine wp_pc (p2 := 868) (by rw [c2_10]; rfl) ?_
      have h := h.2.2.2.2.2.2.2.2.2.2.1 c2_10
      exact h
    by_cases c2_11 : (X.2 l5.toNatClampNeg) &&& 63 = 11
    · refine wp_pc (p2 := 924) (by rw [c2_11]; rfl) ?_
      have h := h.2.2.2.2.2.2.2.2.2.2.2.1 c2_11
      exact h
    by_cases c2_12 : (X.2 l5.toNatClampNeg) &&& 63 = 12
    · refine wp_pc (p2 := 980) (by rw [c2_12]; rfl) ?_
      have h := h.2.2.2.2.2.2.2.2.2.2.2.2.1 c2_12
      exact h
    by_cases c2_13 : (X.2 l5.toNatClampNeg) &&& 63 = 13
    · refine wp_pc (p2 := 1036) (by rw [c2_13]; rfl) ?_
      have h := h.2.2.2.2.2.2.2.2.2.2.2.2.2.1 c2_13
      exact h
    by_cases c2_14 : (X.2 l5.toNatClampNeg) &&& 63 = 14
    · refine wp_pc (p2 := 1092) (by rw [c2_14]; rfl) ?_
      have h := h.2.2.2.2.2.2.2.2.2.2.2.2.2.2.1 c2_14
      exact h
    by_cases c2_15 : (X.2 l5.toNatClampNeg) &&& 63 = 15
    · refine wp_pc (p2 := 1148) (by rw [c2_15]; rfl) ?_
      have h := h.2.2.2.2.2.2.2.2.2.2.2.2.2.2.2.1 c2_15
      exact h
    by_cases c2_16 : (X.2 l5.toNatClampNeg) &&& 63 = 16
    · refine wp_pc (p2 := 1204) (by rw [c2_16]; rfl) ?_
      have h := h.2.2.2.2.2.2.2.2.2.2.2.2.2.2.2.2.1 c2_16
      exact h
    by_cases c2_17 : (X.2 l5.toNatClampNeg) &&& 63 = 17
    · refine wp_pc (p2 := 1260) (by rw [c2_17]; rfl) ?_
      have h := h.2.2.2.2.2.2.2.2.2.2.2.2.2.2.2.2.2.1 c2_17
      exact h
    by_cases c2_18 : (X.2 l5.toNatClampNeg) &&& 63 = 18
    · refine wp_pc (p2 := 1316) (by rw [c2_18]; rfl) ?_
      have h := h.2.2.2.2.2.2.2.2.2.2.2.2.2.2.2.2.2.2.1 c2_18
      exact h
    by_cases c2_19 : (X.2 l5.toNatClampNeg) &&& 63 = 19
    · refine wp_pc (p2 := 1329) (by rw [c2_19]; rfl) ?_
      have h := h.2.2.2.2.2.2.2.2.2.2.2.2.2.2.2.2.2.2.2.1 c2_19
      exact h
    by_cases c2_20 : (X.2 l5.toNatClampNeg) &&& 63 = 20
    · refine wp_pc (p2 := 1385) (by rw [c2_20]; rfl) ?_
      have h := h.2.2.2.2.2.2.2.2.2.2.2.2.2.2.2.2.2.2.2.2.1 c2_20
      exact h
    by_cases c2_21 : (X.2 l5.toNatClampNeg) &&& 63 = 21
    · refine wp_pc (p2 := 1441) (by rw [c2_21]; rfl) ?_
      have h := h.2.2.2.2.2.2.2.2.2.2.2.2.2.2.2.2.2.2.2.2.2.1 c2_21
      exact h
    by_cases c2_22 : (X.2 l5.toNatClampNeg) &&& 63 = 22
    · refine wp_pc (p2 := 1497) (by rw [c2_22]; rfl) ?_
      have h := h.2.2.2.2.2.2.2.2.2.2.2.2.2.2.2.2.2.2.2.2.2.2.1 c2_22
      exact h
    by_cases c2_23 : (X.2 l5.toNatClampNeg) &&& 63 = 23
    · refine wp_pc (p2 := 1565) (by rw [c2_23]; rfl) ?_
      have h := h.2.2.2.2.2.2.2.2.2.2.2.2.2.2.2.2.2.2.2.2.2.2.2.1 c2_23
      exact h
    by_cases c2_24 : (X.2 l5.toNatClampNeg) &&& 63 = 24
    · refine wp_pc (p2 := 1640) (by rw [c2_24]; rfl) ?_
      have h := h.2.2.2.2.2.2.2.2.2.2.2.2.2.2.2.2.2.2.2.2.2.2.2.2.1 c2_24
      exact h
    by_cases c2_25 : (X.2 l5.toNatClampNeg) &&& 63 = 25
    · refine wp_pc (p2 := 1696) (by rw [c2_25]; rfl) ?_
      have h := h.2.2.2.2.2.2.2.2.2.2.2.2.2.2.2.2.2.2.2.2.2.2.2.2.2.1 c2_25
      exact h
    by_cases c2_26 : (X.2 l5.toNatClampNeg) &&& 63 = 26
    · refine wp_pc (p2 := 1764) (by rw [c2_26]; rfl) ?_
      have h := h.2.2.2.2.2.2.2.2.2.2.2.2.2.2.2.2.2.2.2.2.2.2.2.2.2.2.1 c2_26
      exact h
    by_cases c2_27 : (X.2 l5.toNatClampNeg) &&& 63 = 27
    · refine wp_pc (p2 := 1844) (by rw [c2_27]; rfl) ?_
      have h := h.2.2.2.2.2.2.2.2.2.2.2.2.2.2.2.2.2.2.2.2.2.2.2.2.2.2.2.1 c2_27
      exact h
    by_cases c2_28 : (X.2 l5.toNatClampNeg) &&& 63 = 28
    · refine wp_pc (p2 := 1924) (by rw [c2_28]; rfl) ?_
      have h := h.2.2.2.2.2.2.2.2.2.2.2.2.2.2.2.2.2.2.2.2.2.2.2.2.2.2.2.2.1 c2_28
      exact h
    by_cases c2_29 : (X.2 l5.toNatClampNeg) &&& 63 = 29
    · refine wp_pc (p2 := 1968) (by rw [c2_29]; rfl) ?_
      have h := h.2.2.2.2.2.2.2.2.2.2.2.2.2.2.2.2.2.2.2.2.2.2.2.2.2.2.2.2.2.1 c2_29
      exact h
    by_cases c2_30 : (X.2 l5.toNatClampNeg) &&& 63 = 30
    · refine wp_pc (p2 := 2012) (by rw [c2_30]; rfl) ?_
      have h := h.2.2.2.2.2.2.2.2.2.2.2.2.2.2.2.2.2.2.2.2.2.2.2.2.2.2.2.2.2.2.1 c2_30
      exact h
    by_cases c2_31 : (X.2 l5.toNatClampNeg) &&& 63 = 31
    · refine wp_pc (p2 := 2025) (by rw [c2_31]; rfl) ?_
      have h := h.2.2.2.2.2.2.2.2.2.2.2.2.2.2.2.2.2.2.2.2.2.2.2.2.2.2.2.2.2.2.2.1 c2_31
      exact h
    by_cases c2_32 : (X.2 l5.toNatClampNeg) &&& 63 = 32
    · refine wp_pc (p2 := 2038) (by rw [c2_32]; rfl) ?_
      have h := h.2.2.2.2.2.2.2.2.2.2.2.2.2.2.2.2.2.2.2.2.2.2.2.2.2.2.2.2.2.2.2.2.1 c2_32
      exact h
    by_cases c2_33 : (X.2 l5.toNatClampNeg) &&& 63 = 33
    · refine wp_pc (p2 := 2051) (by rw [c2_33]; rfl) ?_
      have h := h.2.2.2.2.2.2.2.2.2.2.2.2.2.2.2.2.2.2.2.2.2.2.2.2.2.2.2.2.2.2.2.2.2.1 c2_33
      exact h
    by_cases c2_34 : (X.2 l5.toNatClampNeg) &&& 63 = 34
    · refine wp_pc (p2 := 2107) (by rw [c2_34]; rfl) ?_
      have h := h.2.2.2.2.2.2.2.2.2.2.2.2.2.2.2.2.2.2.2.2.2.2.2.2.2.2.2.2.2.2.2.2.2.2.1 c2_34
      exact h
    by_cases c2_35 : (X.2 l5.toNatClampNeg) &&& 63 = 35
    · refine wp_pc (p2 := 2163) (by rw [c2_35]; rfl) ?_
      have h := h.2.2.2.2.2.2.2.2.2.2.2.2.2.2.2.2.2.2.2.2.2.2.2.2.2.2.2.2.2.2.2.2.2.2.2.1 c2_35
      exact h
    by_cases c2_36 : (X.2 l5.toNatClampNeg) &&& 63 = 36
    · refine wp_pc (p2 := 2219) (by rw [c2_36]; rfl) ?_
      have h := h.2.2.2.2.2.2.2.2.2.2.2.2.2.2.2.2.2.2.2.2.2.2.2.2.2.2.2.2.2.2.2.2.2.2.2.2.1 c2_36
      exact h
    by_cases c2_37 : (X.2 l5.toNatClampNeg) &&& 63 = 37
    · refine wp_pc (p2 := 2287) (by rw [c2_37]; rfl) ?_
      have h := h.2.2.2.2.2.2.2.2.2.2.2.2.2.2.2.2.2.2.2.2.2.2.2.2.2.2.2.2.2.2.2.2.2.2.2.2.2.1 c2_37
      exact h
    by_cases c2_38 : (X.2 l5.toNatClampNeg) &&& 63 = 38
    · refine wp_pc (p2 := 2300) (by rw [c2_38]; rfl) ?_
      have h := h.2.2.2.2.2.2.2.2.2.2.2.2.2.2.2.2.2.2.2.2.2.2.2.2.2.2.2.2.2.2.2.2.2.2.2.2.2.2.1 c2_38
      exact h
    by_cases c2_39 : (X.2 l5.toNatClampNeg) &&& 63 = 39
    · refine wp_pc (p2 := 2313) (by rw [c2_39]; rfl) ?_
      have h := h.2.2.2.2.2.2.2.2.2.2.2.2.2.2.2.2.2.2.2.2.2.2.2.2.2.2.2.2.2.2.2.2.2.2.2.2.2.2.2.1 c2_39
      exact h
    by_cases c2_40 : (X.2 l5.toNatClampNeg) &&& 63 = 40
    · refine wp_pc (p2 := 2326) (by rw [c2_40]; rfl) ?_
      have h := h.2.2.2.2.2.2.2.2.2.2.2.2.2.2.2.2.2.2.2.2.2.2.2.2.2.2.2.2.2.2.2.2.2.2.2.2.2.2.2.2.1 c2_40
      exact h
    by_cases c2_41 : (X.2 l5.toNatClampNeg) &&& 63 = 41
    · refine wp_pc (p2 := 2339) (by rw [c2_41]; rfl) ?_
      have h := h.2.2.2.2.2.2.2.2.2.2.2.2.2.2.2.2.2.2.2.2.2.2.2.2.2.2.2.2.2.2.2.2.2.2.2.2.2.2.2.2.2.1 c2_41
      exact h
    by_cases c2_42 : (X.2 l5.toNatClampNeg) &&& 63 = 42
    · refine wp_pc (p2 := 2352) (by rw [c2_42]; rfl) ?_
      have h := h.2.2.2.2.2.2.2.2.2.2.2.2.2.2.2.2.2.2.2.2.2.2.2.2.2.2.2.2.2.2.2.2.2.2.2.2.2.2.2.2.2.2.1 c2_42
      exact h
    by_cases c2_43 : (X.2 l5.toNatClampNeg) &&& 63 = 43
    · refine wp_pc (p2 := 2417) (by rw [c2_43]; rfl) ?_
      have h := h.2.2.2.2.2.2.2.2.2.2.2.2.2.2.2.2.2.2.2.2.2.2.2.2.2.2.2.2.2.2.2.2.2.2.2.2.2.2.2.2.2.2.2.1 c2_43
      exact h
    by_cases c2_44 : (X.2 l5.toNatClampNeg) &&& 63 = 44
    · refine wp_pc (p2 := 2483) (by rw [c2_44]; rfl) ?_
      have h := h.2.2.2.2.2.2.2.2.2.2.2.2.2.2.2.2.2.2.2.2.2.2.2.2.2.2.2.2.2.2.2.2.2.2.2.2.2.2.2.2.2.2.2.2.1 c2_44
      exact h
    by_cases c2_45 : (X.2 l5.toNatClampNeg) &&& 63 = 45
    · refine wp_pc (p2 := 2496) (by rw [c2_45]; rfl) ?_
      have h := h.2.2.2.2.2.2.2.2.2.2.2.2.2.2.2.2.2.2.2.2.2.2.2.2.2.2.2.2.2.2.2.2.2.2.2.2.2.2.2.2.2.2.2.2.2.1 c2_45
      exact h
    by_cases c2_46 : (X.2 l5.toNatClampNeg) &&& 63 = 46
    · refine wp_pc (p2 := 2552) (by rw [c2_46]; rfl) ?_
      have h := h.2.2.2.2.2.2.2.2.2.2.2.2.2.2.2.2.2.2.2.2.2.2.2.2.2.2.2.2.2.2.2.2.2.2.2.2.2.2.2.2.2.2.2.2.2.2.1 c2_46
      exact h
    by_cases c2_47 : (X.2 l5.toNatClampNeg) &&& 63 = 47
    · refine wp_pc (p2 := 2608) (by rw [c2_47]; rfl) ?_
      have h := h.2.2.2.2.2.2.2.2.2.2.2.2.2.2.2.2.2.2.2.2.2.2.2.2.2.2.2.2.2.2.2.2.2.2.2.2.2.2.2.2.2.2.2.2.2.2.2.1 c2_47
      exact h
    by_cases c2_48 : (X.2 l5.toNatClampNeg) &&& 63 = 48
    · refine wp_pc (p2 := 2664) (by rw [c2_48]; rfl) ?_
      have h := h.2.2.2.2.2.2.2.2.2.2.2.2.2.2.2.2.2.2.2.2.2.2.2.2.2.2.2.2.2.2.2.2.2.2.2.2.2.2.2.2.2.2.2.2.2.2.2.2.1 c2_48
      exact h
    by_cases c2_49 : (X.2 l5.toNatClampNeg) &&& 63 = 49
    · refine wp_pc (p2 := 2722) (by rw [c2_49]; rfl) ?_
      have h := h.2.2.2.2.2.2.2.2.2.2.2.2.2.2.2.2.2.2.2.2.2.2.2.2.2.2.2.2.2.2.2.2.2.2.2.2.2.2.2.2.2.2.2.2.2.2.2.2.2.1 c2_49
      exact h
    by_cases c2_50 : (X.2 l5.toNatClampNeg) &&& 63 = 50
    · refine wp_pc (p2 := 2766) (by rw [c2_50]; rfl) ?_
      have h := h.2.2.2.2.2.2.2.2.2.2.2.2.2.2.2.2.2.2.2.2.2.2.2.2.2.2.2.2.2.2.2.2.2.2.2.2.2.2.2.2.2.2.2.2.2.2.2.2.2.2.1 c2_50
      exact h
    by_cases c2_51 : (X.2 l5.toNatClampNeg) &&& 63 = 51
    · refine wp_pc (p2 := 2810) (by rw [c2_51]; rfl) ?_
      have h := h.2.2.2.2.2.2.2.2.2.2.2.2.2.2.2.2.2.2.2.2.2.2.2.2.2.2.2.2.2.2.2.2.2.2.2.2.2.2.2.2.2.2.2.2.2.2.2.2.2.2.2.1 c2_51
      exact h
    by_cases c2_52 : (X.2 l5.toNatClampNeg) &&& 63 = 52
    · refine wp_pc (p2 := 2854) (by rw [c2_52]; rfl) ?_
      have h := h.2.2.2.2.2.2.2.2.2.2.2.2.2.2.2.2.2.2.2.2.2.2.2.2.2.2.2.2.2.2.2.2.2.2.2.2.2.2.2.2.2.2.2.2.2.2.2.2.2.2.2.2.1 c2_52
      exact h
    by_cases c2_53 : (X.2 l5.toNatClampNeg) &&& 63 = 53
    · refine wp_pc (p2 := 2898) (by rw [c2_53]; rfl) ?_
      have h := h.2.2.2.2.2.2.2.2.2.2.2.2.2.2.2.2.2.2.2.2.2.2.2.2.2.2.2.2.2.2.2.2.2.2.2.2.2.2.2.2.2.2.2.2.2.2.2.2.2.2.2.2.2.1 c2_53
      exact h
    by_cases c2_54 : (X.2 l5.toNatClampNeg) &&& 63 = 54
    · refine wp_pc (p2 := 2942) (by rw [c2_54]; rfl) ?_
      have h := h.2.2.2.2.2.2.2.2.2.2.2.2.2.2.2.2.2.2.2.2.2.2.2.2.2.2.2.2.2.2.2.2.2.2.2.2.2.2.2.2.2.2.2.2.2.2.2.2.2.2.2.2.2.2.1 c2_54
      exact h
    by_cases c2_55 : (X.2 l5.toNatClampNeg) &&& 63 = 55
    · refine wp_pc (p2 := 2955) (by rw [c2_55]; rfl) ?_
      have h := h.2.2.2.2.2.2.2.2.2.2.2.2.2.2.2.2.2.2.2.2.2.2.2.2.2.2.2.2.2.2.2.2.2.2.2.2.2.2.2.2.2.2.2.2.2.2.2.2.2.2.2.2.2.2.2.1 c2_55
      exact h
    have h := h.2.2.2.2.2.2.2.2.2.2.2.2.2.2.2.2.2.2.2.2.2.2.2.2.2.2.2.2.2.2.2.2.2.2.2.2.2.2.2.2.2.2.2.2.2.2.2.2.2.2.2.2.2.2.2.2 ⟨c2_0, c2_1, c2_2, c2_3, c2_4, c2_5, c2_6, c2_7, c2_8, c2_9, c2_10, c2_11, c2_12, c2_13, c2_14, c2_15, c2_16, c2_17, c2_18, c2_19, c2_20, c2_21, c2_22, c2_23, c2_24, c2_25, c2_26, c2_27, c2_28, c2_29, c2_30, c2_31, c2_32, c2_33, c2_34, c2_35, c2_36, c2_37, c2_38, c2_39, c2_40, c2_41, c2_42, c2_43, c2_44, c2_45, c2_46, c2_47, c2_48, c2_49, c2_50, c2_51, c2_52, c2_53, c2_54, c2_55⟩
    refine wp_pc (p2 := 2999) (swt_d0_55 _ _ _ _ c2_0 c2_1 c2_2 c2_3 c2_4 c2_5 c2_6 c2_7 c2_8 c2_9 c2_10 c2_11 c2_12 c2_13 c2_14 c2_15 c2_16 c2_17 c2_18 c2_19 c2_20 c2_21 c2_22 c2_23 c2_24 c2_25 c2_26 c2_27 c2_28 c2_29 c2_30 c2_31 c2_32 c2_33 c2_34 c2_35 c2_36 c2_37 c2_38 c2_39 c2_40 c2_41 c2_42 c2_43 c2_44 c2_45 c2_46 c2_47 c2_48 c2_49 c2_50 c2_51 c2_52 c2_53 c2_54 c2_55) ?_
    exact h
set_option maxRecDepth 100000 in
set_option maxHeartbeats 4000000 in
theorem vl_law_284 {X : MX} {d : Nat} {x : Int64 × UInt64} {m : MI} {Q : MRes → Prop} {u : Nat × Nat} {l5 : Int32} {o6 : Option MV} {o7 : Option MV} {o8 : Option MV} (h : (inb (l5 + 1) X.1 = true ∧ inb (l5 + 2) X.1 = true ∧ inb (l5 + 3) X.1 = true ∧ inb (l5 + 4) X.1 = true ∧ Cl X d 279 [vp 0 0, vi (X.2 (l5 + 1).toNatClampNeg), vi (X.2 (l5 + 2).toNatClampNeg), vi (X.2 (l5 + 3).toNatClampNeg), vi (X.2 (l5 + 4).toNatClampNeg), vp 43 0] (Gu u x m) (fun r => ∃ (v1 : Int32) (m2 : MI) (u3 : Nat × Nat) (x4 : Int64 × UInt64), r = (.inl (some (vi v1)), Gu u3 x4 m2) ∧ (inb (l5 + 1) X.1 = true ∧ inb (l5 + 2) X.1 = true ∧ inb (l5 + 3) X.1 = true ∧ inb (l5 + 4) X.1 = true ∧ Cl X d 170 [vp 31 0, vi (X.2 (l5 + 1).toNatClampNeg), vi (X.2 (l5 + 2).toNatClampNeg), vi (X.2 (l5 + 3).toNatClampNeg), vi (X.2 (l5 + 4).toNatClampNeg)] (Gu (u.1 + u3.1, u.2 + u3.2) x4 m2) (fun r => ∃ (v5 : Int32) (m6 : MI), r = (.inl (some (vi v5)), G x4 m6) ∧ Cl X d 146 [vp 31 0] (Gu (u.1 + u3.1, u.2 + u3.2) x4 m6) (fun r => ∃ (v7 : Int32) (m8 : MI), r = (.inl (some (vi v7)), G x4 m8) ∧ ((v7 = v1 → ((¬ v1 = 0 → Wp X (d + 1) 322 (2999, ([some (vs 0 0), some (vp 0 0), some (vp 31 0), some (vp 43 0), some (vp 44 0), some (vi l5), some (vi v1), some (vi v5), o8], ([], Gu (u.1 + u3.1, u.2 + u3.2) x4 m8))) Q) ∧ (¬ (¬ v1 = 0) → (((lg_cmp (x4.1) (v5.toInt64)) = 0 → Wp X (d + 1) 322 (2999, ([some (vs 0 0), some (vp 0 0), some (vp 31 0), some (vp 43 0), some (vp 44 0), some (vi l5), some (vi v1), some (vi v5), o8], ([], Gu (u.1 + u3.1, u.2 + u3.2) x4 m8))) Q) ∧ (¬ ((lg_cmp (x4.1) (v5.toInt64)) = 0) → Q (.inl (some (vi 0)), Gu (u.1 + u3.1, u.2 + u3.2) x4 m8)))))) ∧ (¬ (v7 = v1) → Q (.inl (some (vi 0)), Gu (u.1 + u3.1, u.2 + u3.2) x4 m8))))))))) : Wp X (d + 1) 322 (284, ([some (vs 0 0), some (vp 0 0), some (vp 31 0), some (vp 43 0), some (vp 44 0), some (vi l5), o6, o7, o8], ([], Gu u x m))) Q := by
  obtain ⟨hg1_0, hg1_1, hg1_2, hg1_3, h⟩ := h
  refine wp_run 22 (inb (l5 + 4) X.1 && (inb (l5 + 3) X.1 && (inb (l5 + 2) X.1 && (inb (l5 + 1) X.1 && true)))) (310, ([some (vs 0 0), some (vp 0 0), some (vp 31 0), some (vp 43 0), some (vp 44 0), some (vi l5), o6, o7, o8], ([vp 43 0, vi (X.2 (l5 + 4).toNatClampNeg), vi (X.2 (l5 + 3).toNatClampNeg), vi (X.2 (l5 + 2).toNatClampNeg), vi (X.2 (l5 + 1).toNatClampNeg), vp 0 0], Gu u x m))) rfl (and_t hg1_3 (and_t hg1_2 (and_t hg1_1 (and_t hg1_0 rfl)))) ?_
  refine wp_call 279 [vp 0 0, vi (X.2 (l5 + 1).toNatClampNeg), vi (X.2 (l5 + 2).toNatClampNeg), vi (X.2 (l5 + 3).toNatClampNeg), vi (X.2 (l5 + 4).toNatClampNeg), vp 43 0] (313, ([some (vs 0 0), some (vp 0 0), some (vp 31 0), some (vp 43 0), some (vp 44 0), some (vi l5), o6, o7, o8], ([], Gu u x m))) rfl rfl (Cl.mono h (Nat.le_refl _) ?_)
  rintro r ⟨v1, m2, u3, x4, rfl, h⟩
  · show Wp X (d + 1) 322 (313, ([some (vs 0 0), some (vp 0 0), some (vp 31 0), some (vp 43 0), some (vp 44 0), some (vi l5), o6, o7, o8], ([vi v1], Gu (u.1 + u3.1, u.2 + u3.2) x4 m2))) Q
    obtain ⟨hg2_0, hg2_1, hg2_2, hg2_3, h⟩ := h
    refine wp_run 22 (inb (l5 + 4) X.1 && (inb (l5 + 3) X.1 && (inb (l5 + 2) X.1 && (inb (l5 + 1) X.1 && true)))) (340, ([some (vs 0 0), some (vp 0 0), some (vp 31 0), some (vp 43 0), some (vp 44 0), some (vi l5), some (vi v1), o7, o8], ([vi (X.2 (l5 + 4).toNatClampNeg), vi (X.2 (l5 + 3).toNatClampNeg), vi (X.2 (l5 + 2).toNatClampNeg), vi (X.2 (l5 + 1).toNatClampNeg), vp 31 0], Gu (u.1 + u3.1, u.2 + u3.2) x4 m2))) rfl (and_t hg2_3 (and_t hg2_2 (and_t hg2_1 (and_t hg2_0 rfl)))) ?_
    refine wp_call 170 [vp 31 0, vi (X.2 (l5 + 1).toNatClampNeg), vi (X.2 (l5 + 2).toNatClampNeg), vi (X.2 (l5 + 3).toNatClampNeg), vi (X.2 (l5 + 4).toNatClampNeg)] (343, ([some (vs 0 0), some (vp 0 0), some (vp 31 0), some (vp 43 0), some (vp 44 0), some (vi l5), some (vi v1), o7, o8], ([], Gu (u.1 + u3.1, u.2 + u3.2) x4 m2))) rfl rfl (Cl.mono h (Nat.le_refl _) ?_)
    rintro r ⟨v5, m6, rfl, h⟩
    · show Wp X (d + 1) 322 (343, ([some (vs 0 0), some (vp 0 0), some (vp 31 0), some (vp 43 0), some (vp 44 0), some (vi l5), some (vi v1), o7, o8], ([vi v5], Gu (u.1 + u3.1, u.2 + u3.2) x4 m6))) Q
      refine wp_run 2 true (346, ([some (vs 0 0), some (vp 0 0), some (vp 31 0), some (vp 43 0), some (vp 44 0), some (vi l5), some (vi v1), some (vi v5), o8], ([vp 31 0], Gu (u.1 + u3.1, u.2 + u3.2) x4 m6))) rfl rfl ?_
      refine wp_call 146 [vp 31 0] (349, ([some (vs 0 0), some (vp 0 0), some (vp 31 0), some (vp 43 0), some (vp 44 0), some (vi l5), some (vi v1), some (vi v5), o8], ([], Gu (u.1 + u3.1, u.2 + u3.2) x4 m6))) rfl rfl (Cl.mono h (Nat.le_refl _) ?_)
      rintro r ⟨v7, m8, rfl, h⟩
      · show Wp X (d + 1) 322 (349, ([some (vs 0 0), some (vp 0 0), some (vp 31 0), some (vp 43 0), some (vp 44 0), some (vi l5), some (vi v1), some (vi v5), o8], ([vi v7], Gu (u.1 + u3.1, u.2 + u3.2) x4 m8))) Q
        refine wp_run 2 true ((bif decide (v7 = v1) then 356 else 354), ([some (vs 0 0), some (vp 0 0), some (vp 31 0), some (vp 43 0), some (vp 44 0), some (vi l5), some (vi v1), some (vi v5), o8], ([], Gu (u.1 + u3.1, u.2 + u3.2) x4 m8))) rfl rfl ?_
        refine wp_if (v7 = v1) (fun c9 => ?_) (fun c9 => ?_)
        · have h := h.1 c9
          refine wp_run 2 true ((bif decide (¬ v1 = 0) then 373 else 361), ([some (vs 0 0), some (vp 0 0), some (vp 31 0), some (vp 43 0), some (vp 44 0), some (vi l5), some (vi v1), some (vi v5), o8], ([], Gu (u.1 + u3.1, u.2 + u3.2) x4 m8))) rfl rfl ?_
          refine wp_if (¬ v1 = 0) (fun c10 => ?_) (fun c10 => ?_)
          · have h := h.1 c10
            refine wp_run 1 true (2999, ([some (vs 0 0), some (vp 0 0), some (vp 31 0), some (vp 43 0), some (vp 44 0), some (vi l5), some (vi v1), some (vi v5), o8], ([], Gu (u.1 + u3.1, u.2 + u3.2) x4 m8))) rfl rfl ?_
            exact h
          · have h := h.2 c10
            refine wp_run 7 true ((bif decide ((lg_cmp (x4.1) (v5.toInt64)) = 0) then 373 else 371), ([some (vs 0 0), some (vp 0 0), some (vp 31 0), some (vp 43 0), some (vp 44 0), some (vi l5), some (vi v1), some (vi v5), o8], ([], Gu (u.1 + u3.1, u.2 + u3.2) x4 m8))) rfl rfl ?_
            refine wp_if ((lg_cmp (x4.1) (v5.toInt64)) = 0) (fun c11 => ?_) (fun c11 => ?_)
            · have h := h.1 c11
              refine wp_run 1 true (2999, ([some (vs 0 0), some (vp 0 0), some (vp 31 0), some (vp 43 0), some (vp 44 0), some (vi l5), some (vi v1), some (vi v5), o8], ([], Gu (u.1 + u3.1, u.2 + u3.2) x4 m8))) rfl rfl ?_
              exact h
            · have h := h.2 c11
              refine wp_run 1 true (372, ([some (vs 0 0), some (vp 0 0), some (vp 31 0), some (vp 43 0), some (vp 44 0), some (vi l5), some (vi v1), some (vi v5), o8], ([vi 0], Gu (u.1 + u3.1, u.2 + u3.2) x4 m8))) rfl rfl ?_
              exact wp_ret rfl h
        · have h := h.2 c9
          refine wp_run 1 true (355, ([some (vs 0 0), some (vp 0 0), some (vp 31 0), some (vp 43 0), some (vp 44 0), some (vi l5), some (vi v1), some (vi v5), o8], ([vi 0], Gu (u.1 + u3.1, u.2 + u3.2) x4 m8))) rfl rfl ?_
          exact wp_ret rfl h
set_option maxRecDepth 100000 in
set_option maxHeartbeats 4000000 in
theorem vl_law_376 {X : MX} {d : Nat} {x : Int64 × UInt64} {m : MI} {Q : MRes → Prop} {u : Nat × Nat} {l5 : Int32} {o6 : Option MV} {o7 : Option MV} {o8 : Option MV} (h : (inb (l5 + 1) X.1 = true ∧ inb (l5 + 2) X.1 = true ∧ inb (l5 + 3) X.1 = true ∧ inb (l5 + 4) X.1 = true ∧ inb (l5 + 5) X.1 = true ∧ Cl X d 280 [vp 0 0, vi (X.2 (l5 + 1).toNatClampNeg), vi (X.2 (l5 + 2).toNatClampNeg), vi (X.2 (l5 + 3).toNatClampNeg), vi (X.2 (l5 + 4).toNatClampNeg), vi (X.2 (l5 + 5).toNatClampNeg), vp 43 0] (Gu u x m) (fun r => ∃ (v1 : Int32) (m2 : MI) (u3 : Nat × Nat) (x4 : Int64 × UInt64), r = (.inl (some (vi v1)), Gu u3 x4 m2) ∧ (inb (l5 + 1) X.1 = true ∧ inb (l5 + 2) X.1 = true ∧ inb (l5 + 3) X.1 = true ∧ inb (l5 + 4) X.1 = true ∧ inb (l5 + 5) X.1 = true ∧ Cl X d 173 [vp 31 0, vi (X.2 (l5 + 1).toNatClampNeg), vi (X.2 (l5 + 2).toNatClampNeg), vi (X.2 (l5 + 3).toNatClampNeg), vi (X.2 (l5 + 4).toNatClampNeg), vi (X.2 (l5 + 5).toNatClampNeg)] (Gu (u.1 + u3.1, u.2 + u3.2) x4 m2) (fun r => ∃ (v5 : Int32) (m6 : MI), r = (.inl (some (vi v5)), G x4 m6) ∧ Cl X d 146 [vp 31 0] (Gu (u.1 + u3.1, u.2 + u3.2) x4 m6) (fun r => ∃ (v7 : Int32) (m8 : MI), r = (.inl (some (vi v7)), G x4 m8) ∧ ((v7 = v1 → ((¬ v1 = 0 → Wp X (d + 1) 322 (2999, ([some (vs 0 0), some (vp 0 0), some (vp 31 0), some (vp 43 0), some (vp 44 0), some (vi l5), some (vi v1), some (vi v5), o8], ([], Gu (u.1 + u3.1, u.2 + u3.2) x4 m8))) Q) ∧ (¬ (¬ v1 = 0) → (((lg_cmp (x4.1) (v5.toInt64)) = 0 → Wp X (d + 1) 322 (2999, ([some (vs 0 0), some (vp 0 0), some (vp 31 0), some (vp 43 0), some (vp 44 0), some (vi l5), some (vi v1), some (vi v5), o8], ([], Gu (u.1 + u3.1, u.2 + u3.2) x4 m8))) Q) ∧ (¬ ((lg_cmp (x4.1) (v5.toInt64)) = 0) → Q (.inl (some (vi 0)), Gu (u.1 + u3.1, u.2 + u3.2) x4 m8)))))) ∧ (¬ (v7 = v1) → Q (.inl (some (vi 0)), Gu (u.1 + u3.1, u.2 + u3.2) x4 m8))))))))) : Wp X (d + 1) 322 (376, ([some (vs 0 0), some (vp 0 0), some (vp 31 0), some (vp 43 0), some (vp 44 0), some (vi l5), o6, o7, o8], ([], Gu u x m))) Q := by
  obtain ⟨hg1_0, hg1_1, hg1_2, hg1_3, hg1_4, h⟩ := h
  refine wp_run 27 (inb (l5 + 5) X.1 && (inb (l5 + 4) X.1 && (inb (l5 + 3) X.1 && (inb (l5 + 2) X.1 && (inb (l5 + 1) X.1 && true))))) (408, ([some (vs 0 0), some (vp 0 0), some (vp 31 0), some (vp 43 0), some (vp 44 0), some (vi l5), o6, o7, o8], ([vp 43 0, vi (X.2 (l5 + 5).toNatClampNeg), vi (X.2 (l5 + 4).toNatClampNeg), vi (X.2 (l5 + 3).toNatClampNeg), vi (X.2 (l5 + 2).toNatClampNeg), vi (X.2 (l5 + 1).toNatClampNeg), vp 0 0], Gu u x m))) rfl (and_t hg1_4 (and_t hg1_3 (and_t hg1_2 (and_t hg1_1 (and_t hg1_0 rfl))))) ?_
  refine wp_call 280 [vp 0 0, vi (X.2 (l5 + 1).toNatClampNeg), vi (X.2 (l5 + 2).toNatClampNeg), vi (X.2 (l5 + 3).toNatClampNeg), vi (X.2 (l5 + 4).toNatClampNeg), vi (X.2 (l5 + 5).toNatClampNeg), vp 43 0] (411, ([some (vs 0 0), some (vp 0 0), some (vp 31 0), some (vp 43 0), some (vp 44 0), some (vi l5), o6, o7, o8], ([], Gu u x m))) rfl rfl (Cl.mono h (Nat.le_refl _) ?_)
  rintro r ⟨v1, m2, u3, x4, rfl, h⟩
  · show Wp X (d + 1) 322 (411, ([some (vs 0 0), some (vp 0 0), some (vp 31 0), some (vp 43 0), some (vp 44 0), some (vi l5), o6, o7, o8], ([vi v1], Gu (u.1 + u3.1, u.2 + u3.2) x4 m2))) Q
    obtain ⟨hg2_0, hg2_1, hg2_2, hg2_3, hg2_4, h⟩ := h
    refine wp_run 27 (inb (l5 + 5) X.1 && (inb (l5 + 4) X.1 && (inb (l5 + 3) X.1 && (inb (l5 + 2) X.1 && (inb (l5 + 1) X.1 && true))))) (444, ([some (vs 0 0), some (vp 0 0), some (vp 31 0), some (vp 43 0), some (vp 44 0), some (vi l5), some (vi v1), o7, o8], ([vi (X.2 (l5 + 5).toNatClampNeg), vi (X.2 (l5 + 4).toNatClampNeg), vi (X.2 (l5 + 3).toNatClampNeg), vi (X.2 (l5 + 2).toNatClampNeg), vi (X.2 (l5 + 1).toNatClampNeg), vp 31 0], Gu (u.1 + u3.1, u.2 + u3.2) x4 m2))) rfl (and_t hg2_4 (and_t hg2_3 (and_t hg2_2 (and_t hg2_1 (and_t hg2_0 rfl))))) ?_
    refine wp_call 173 [vp 31 0, vi (X.2 (l5 + 1).toNatClampNeg), vi (X.2 (l5 + 2).toNatClampNeg), vi (X.2 (l5 + 3).toNatClampNeg), vi (X.2 (l5 + 4).toNatClampNeg), vi (X.2 (l5 + 5).toNatClampNeg)] (447, ([some (vs 0 0), some (vp 0 0), some (vp 31 0), some (vp 43 0), some (vp 44 0), some (vi l5), some (vi v1), o7, o8], ([], Gu (u.1 + u3.1, u.2 + u3.2) x4 m2))) rfl rfl (Cl.mono h (Nat.le_refl _) ?_)
    rintro r ⟨v5, m6, rfl, h⟩
    · show Wp X (d + 1) 322 (447, ([some (vs 0 0), some (vp 0 0), some (vp 31 0), some (vp 43 0), some (vp 44 0), some (vi l5), some (vi v1), o7, o8], ([vi v5], Gu (u.1 + u3.1, u.2 + u3.2) x4 m6))) Q
      refine wp_run 2 true (450, ([some (vs 0 0), some (vp 0 0), some (vp 31 0), some (vp 43 0), some (vp 44 0), some (vi l5), some (vi v1), some (vi v5), o8], ([vp 31 0], Gu (u.1 + u3.1, u.2 + u3.2) x4 m6))) rfl rfl ?_
      refine wp_call 146 [vp 31 0] (453, ([some (vs 0 0), some (vp 0 0), some (vp 31 0), some (vp 43 0), some (vp 44 0), some (vi l5), some (vi v1), some (vi v5), o8], ([], Gu (u.1 + u3.1, u.2 + u3.2) x4 m6))) rfl rfl (Cl.mono h (Nat.le_refl _) ?_)
      rintro r ⟨v7, m8, rfl, h⟩
      · show Wp X (d + 1) 322 (453, ([some (vs 0 0), some (vp 0 0), some (vp 31 0), some (vp 43 0), some (vp 44 0), some (vi l5), some (vi v1), some (vi v5), o8], ([vi v7], Gu (u.1 + u3.1, u.2 + u3.2) x4 m8))) Q
        refine wp_run 2 true ((bif decide (v7 = v1) then 460 else 458), ([some (vs 0 0), some (vp 0 0), some (vp 31 0), some (vp 43 0), some (vp 44 0), some (vi l5), some (vi v1), some (vi v5), o8], ([], Gu (u.1 + u3.1, u.2 + u3.2) x4 m8))) rfl rfl ?_
        refine wp_if (v7 = v1) (fun c9 => ?_) (fun c9 => ?_)
        · have h := h.1 c9
          refine wp_run 2 true ((bif decide (¬ v1 = 0) then 477 else 465), ([some (vs 0 0), some (vp 0 0), some (vp 31 0), some (vp 43 0), some (vp 44 0), some (vi l5), some (vi v1), some (vi v5), o8], ([], Gu (u.1 + u3.1, u.2 + u3.2) x4 m8))) rfl rfl ?_
          refine wp_if (¬ v1 = 0) (fun c10 => ?_) (fun c10 => ?_)
          · have h := h.1 c10
            refine wp_run 1 true (2999, ([some (vs 0 0), some (vp 0 0), some (vp 31 0), some (vp 43 0), some (vp 44 0), some (vi l5), some (vi v1), some (vi v5), o8], ([], Gu (u.1 + u3.1, u.2 + u3.2) x4 m8))) rfl rfl ?_
            exact h
          · have h := h.2 c10
            refine wp_run 7 true ((bif decide ((lg_cmp (x4.1) (v5.toInt64)) = 0) then 477 else 475), ([some (vs 0 0), some (vp 0 0), some (vp 31 0), some (vp 43 0), some (vp 44 0), some (vi l5), some (vi v1), some (vi v5), o8], ([], Gu (u.1 + u3.1, u.2 + u3.2) x4 m8))) rfl rfl ?_
            refine wp_if ((lg_cmp (x4.1) (v5.toInt64)) = 0) (fun c11 => ?_) (fun c11 => ?_)
            · have h := h.1 c11
              refine wp_run 1 true (2999, ([some (vs 0 0), some (vp 0 0), some (vp 31 0), some (vp 43 0), some (vp 44 0), some (vi l5), some (vi v1), some (vi v5), o8], ([], Gu (u.1 + u3.1, u.2 + u3.2) x4 m8))) rfl rfl ?_
              exact h
            · have h := h.2 c11
              refine wp_run 1 true (476, ([some (vs 0 0), some (vp 0 0), some (vp 31 0), some (vp 43 0), some (vp 44 0), some (vi l5), some (vi v1), some (vi v5), o8], ([vi 0], Gu (u.1 + u3.1, u.2 + u3.2) x4 m8))) rfl rfl ?_
              exact wp_ret rfl h
        · have h := h.2 c9
          refine wp_run 1 true (459, ([some (vs 0 0), some (vp 0 0), some (vp 31 0), some (vp 43 0), some (vp 44 0), some (vi l5), some (vi v1), some (vi v5), o8], ([vi 0], Gu (u.1 + u3.1, u.2 + u3.2) x4 m8))) rfl rfl ?_
          exact wp_ret rfl h
set_option maxRecDepth 100000 in
set_option maxHeartbeats 4000000 in
theorem vl_law_480 {X : MX} {d : Nat} {x : Int64 × UInt64} {m : MI} {Q : MRes → Prop} {u : Nat × Nat} {l5 : Int32} {o6 : Option MV} {o7 : Option MV} {o8 : Option MV} (h : (inb (l5 + 1) X.1 = true ∧ Cl X d 281 [vp 0 0, vi (X.2 (l5 + 1).toNatClampNeg), vp 43 0] (Gu u x m) (fun r => ∃ (v1 : Int32) (m2 : MI) (u3 : Nat × Nat) (x4 : Int64 × UInt64), r = (.inl (some (vi v1)), Gu u3 x4 m2) ∧ (inb (l5 + 1) X.1 = true ∧ Cl X d 175 [vp 31 0, vi (X.2 (l5 + 1).toNatClampNeg)] (Gu (u.1 + u3.1, u.2 + u3.2) x4 m2) (fun r => ∃ (v5 : Int32) (m6 : MI), r = (.inl (some (vi v5)), G x4 m6) ∧ Cl X d 146 [vp 31 0] (Gu (u.1 + u3.1, u.2 + u3.2) x4 m6) (fun r => ∃ (v7 : Int32) (m8 : MI), r = (.inl (some (vi v7)), G x4 m8) ∧ ((v7 = v1 → ((¬ v1 = 0 → Wp X (d + 1) 322 (2999, ([some (vs 0 0), some (vp 0 0), some (vp 31 0), some (vp 43 0), some (vp 44 0), some (vi l5), some (vi v1), some (vi v5), o8], ([], Gu (u.1 + u3.1, u.2 + u3.2) x4 m8))) Q) ∧ (¬ (¬ v1 = 0) → (((lg_cmp (x4.1) (v5.toInt64)) = 0 → Wp X (d + 1) 322 (2999, ([some (vs 0 0), some (vp 0 0), some (vp 31 0), some (vp 43 0), some (vp 44 0), some (vi l5), some (vi v1), some (vi v5), o8], ([], Gu (u.1 + u3.1, u.2 + u3.2) x4 m8))) Q) ∧ (¬ ((lg_cmp (x4.1) (v5.toInt64)) = 0) → Q (.inl (some (vi 0)), Gu (u.1 + u3.1, u.2 + u3.2) x4 m8)))))) ∧ (¬ (v7 = v1) → Q (.inl (some (vi 0)), Gu (u.1 + u3.1, u.2 + u3.2) x4 m8))))))))) : Wp X (d + 1) 322 (480, ([some (vs 0 0), some (vp 0 0), some (vp 31 0), some (vp 43 0), some (vp 44 0), some (vi l5), o6, o7, o8], ([], Gu u x m))) Q := by
  obtain ⟨hg1_0, h⟩ := h
  refine wp_run 7 (inb (l5 + 1) X.1 && true) (488, ([some (vs 0 0), some (vp 0 0), some (vp 31 0), some (vp 43 0), some (vp 44 0), some (vi l5), o6, o7, o8], ([vp 43 0, vi (X.2 (l5 + 1).toNatClampNeg), vp 0 0], Gu u x m))) rfl (and_t hg1_0 rfl) ?_
  refine wp_call 281 [vp 0 0, vi (X.2 (l5 + 1).toNatClampNeg), vp 43 0] (491, ([some (vs 0 0), some (vp 0 0), some (vp 31 0), some (vp 43 0), some (vp 44 0), some (vi l5), o6, o7, o8], ([], Gu u x m))) rfl rfl (Cl.mono h (Nat.le_refl _) ?_)
  rintro r ⟨v1, m2, u3, x4, rfl, h⟩
  · show Wp X (d + 1) 322 (491, ([some (vs 0 0), some (vp 0 0), some (vp 31 0), some (vp 43 0), some (vp 44 0), some (vi l5), o6, o7, o8], ([vi v1], Gu (u.1 + u3.1, u.2 + u3.2) x4 m2))) Q
    obtain ⟨hg2_0, h⟩ := h
    refine wp_run 7 (inb (l5 + 1) X.1 && true) (500, ([some (vs 0 0), some (vp 0 0), some (vp 31 0), some (vp 43 0), some (vp 44 0), some (vi l5), some (vi v1), o7, o8], ([vi (X.2 (l5 + 1).toNatClampNeg), vp 31 0], Gu (u.1 + u3.1, u.2 + u3.2) x4 m2))) rfl (and_t hg2_0 rfl) ?_
    refine wp_call 175 [vp 31 0, vi (X.2 (l5 + 1).toNatClampNeg)] (503, ([some (vs 0 0), some (vp 0 0), some (vp 31 0), some (vp 43 0), some (vp 44 0), some (vi l5), some (vi v1), o7, o8], ([], Gu (u.1 + u3.1, u.2 + u3.2) x4 m2))) rfl rfl (Cl.mono h (Nat.le_refl _) ?_)
    rintro r ⟨v5, m6, rfl, h⟩
    · show Wp X (d + 1) 322 (503, ([some (vs 0 0), some (vp 0 0), some (vp 31 0), some (vp 43 0), some (vp 44 0), some (vi l5), some (vi v1), o7, o8], ([vi v5], Gu (u.1 + u3.1, u.2 + u3.2) x4 m6))) Q
      refine wp_run 2 true (506, ([some (vs 0 0), some (vp 0 0), some (vp 31 0), some (vp 43 0), some (vp 44 0), some (vi l5), some (vi v1), some (vi v5), o8], ([vp 31 0], Gu (u.1 + u3.1, u.2 + u3.2) x4 m6))) rfl rfl ?_
      refine wp_call 146 [vp 31 0] (509, ([some (vs 0 0), some (vp 0 0), some (vp 31 0), some (vp 43 0), some (vp 44 0), some (vi l5), some (vi v1), some (vi v5), o8], ([], Gu (u.1 + u3.1, u.2 + u3.2) x4 m6))) rfl rfl (Cl.mono h (Nat.le_refl _) ?_)
      rintro r ⟨v7, m8, rfl, h⟩
      · show Wp X (d + 1) 322 (509, ([some (vs 0 0), some (vp 0 0), some (vp 31 0), some (vp 43 0), some (vp 44 0), some (vi l5), some (vi v1), some (vi v5), o8], ([vi v7], Gu (u.1 + u3.1, u.2 + u3.2) x4 m8))) Q
        refine wp_run 2 true ((bif decide (v7 = v1) then 516 else 514), ([some (vs 0 0), some (vp 0 0), some (vp 31 0), some (vp 43 0), some (vp 44 0), some (vi l5), some (vi v1), some (vi v5), o8], ([], Gu (u.1 + u3.1, u.2 + u3.2) x4 m8))) rfl rfl ?_
        refine wp_if (v7 = v1) (fun c9 => ?_) (fun c9 => ?_)
        · have h := h.1 c9
          refine wp_run 2 true ((bif decide (¬ v1 = 0) then 533 else 521), ([some (vs 0 0), some (vp 0 0), some (vp 31 0), some (vp 43 0), some (vp 44 0), some (vi l5), some (vi v1), some (vi v5), o8], ([], Gu (u.1 + u3.1, u.2 + u3.2) x4 m8))) rfl rfl ?_
          refine wp_if (¬ v1 = 0) (fun c10 => ?_) (fun c10 => ?_)
          · have h := h.1 c10
            refine wp_run 1 true (2999, ([some (vs 0 0), some (vp 0 0), some (vp 31 0), some (vp 43 0), some (vp 44 0), some (vi l5), some (vi v1), some (vi v5), o8], ([], Gu (u.1 + u3.1, u.2 + u3.2) x4 m8))) rfl rfl ?_
            exact h
          · have h := h.2 c10
            refine wp_run 7 true ((bif decide ((lg_cmp (x4.1) (v5.toInt64)) = 0) then 533 else 531), ([some (vs 0 0), some (vp 0 0), some (vp 31 0), some (vp 43 0), some (vp 44 0), some (vi l5), some (vi v1), some (vi v5), o8], ([], Gu (u.1 + u3.1, u.2 + u3.2) x4 m8))) rfl rfl ?_
            refine wp_if ((lg_cmp (x4.1) (v5.toInt64)) = 0) (fun c11 => ?_) (fun c11 => ?_)
            · have h := h.1 c11
              refine wp_run 1 true (2999, ([some (vs 0 0), some (vp 0 0), some (vp 31 0), some (vp 43 0), some (vp 44 0), some (vi l5), some (vi v1), some (vi v5), o8], ([], Gu (u.1 + u3.1, u.2 + u3.2) x4 m8))) rfl rfl ?_
              exact h
            · have h := h.2 c11
              refine wp_run 1 true (532, ([some (vs 0 0), some (vp 0 0), some (vp 31 0), some (vp 43 0), some (vp 44 0), some (vi l5), some (vi v1), some (vi v5), o8], ([vi 0], Gu (u.1 + u3.1, u.2 + u3.2) x4 m8))) rfl rfl ?_
              exact wp_ret rfl h
        · have h := h.2 c9
          refine wp_run 1 true (515, ([some (vs 0 0), some (vp 0 0), some (vp 31 0), some (vp 43 0), some (vp 44 0), some (vi l5), some (vi v1), some (vi v5), o8], ([vi 0], Gu (u.1 + u3.1, u.2 + u3.2) x4 m8))) rfl rfl ?_
          exact wp_ret rfl h
set_option maxRecDepth 100000 in
set_option maxHeartbeats 4000000 in
theorem vl_law_536 {X : MX} {d : Nat} {x : Int64 × UInt64} {m : MI} {Q : MRes → Prop} {u : Nat × Nat} {l5 : Int32} {o6 : Option MV} {o7 : Option MV} {o8 : Option MV} (h : (inb (l5 + 1) X.1 = true ∧ Cl X d 282 [vp 0 0, vi (X.2 (l5 + 1).toNatClampNeg), vp 43 0] (Gu u x m) (fun r => ∃ (v1 : Int32) (m2 : MI) (u3 : Nat × Nat) (x4 : Int64 × UInt64), r = (.inl (some (vi v1)), Gu u3 x4 m2) ∧ (inb (l5 + 1) X.1 = true ∧ Cl X d 177 [vp 31 0, vi (X.2 (l5 + 1).toNatClampNeg)] (Gu (u.1 + u3.1, u.2 + u3.2) x4 m2) (fun r => ∃ (v5 : Int32) (m6 : MI), r = (.inl (some (vi v5)), G x4 m6) ∧ Cl X d 146 [vp 31 0] (Gu (u.1 + u3.1, u.2 + u3.2) x4 m6) (fun r => ∃ (v7 : Int32) (m8 : MI), r = (.inl (some (vi v7)), G x4 m8) ∧ ((v7 = v1 → ((¬ v1 = 0 → Wp X (d + 1) 322 (2999, ([some (vs 0 0), some (vp 0 0), some (vp 31 0), some (vp 43 0), some (vp 44 0), some (vi l5), some (vi v1), some (vi v5), o8], ([], Gu (u.1 + u3.1, u.2 + u3.2) x4 m8))) Q) ∧ (¬ (¬ v1 = 0) → (((lg_cmp (x4.1) (v5.toInt64)) = 0 → Wp X (d + 1) 322 (2999, ([some (vs 0 0), some (vp 0 0), some (vp 31 0), some (vp 43 0), some (vp 44 0), some (vi l5), some (vi v1), some (vi v5), o8], ([], Gu (u.1 + u3.1, u.2 + u3.2) x4 m8))) Q) ∧ (¬ ((lg_cmp (x4.1) (v5.toInt64)) = 0) → Q (.inl (some (vi 0)), Gu (u.1 + u3.1, u.2 + u3.2) x4 m8)))))) ∧ (¬ (v7 = v1) → Q (.inl (some (vi 0)), Gu (u.1 + u3.1, u.2 + u3.2) x4 m8))))))))) : Wp X (d + 1) 322 (536, ([some (vs 0 0), some (vp 0 0), some (vp 31 0), some (vp 43 0), some (vp 44 0), some (vi l5), o6, o7, o8], ([], Gu u x m))) Q := by
  obtain ⟨hg1_0, h⟩ := h
  refine wp_run 7 (inb (l5 + 1) X.1 && true) (544, ([some (vs 0 0), some (vp 0 0), some (vp 31 0), some (vp 43 0), some (vp 44 0), some (vi l5), o6, o7, o8], ([vp 43 0, vi (X.2 (l5 + 1).toNatClampNeg), vp 0 0], Gu u x m))) rfl (and_t hg1_0 rfl) ?_
  refine wp_call 282 [vp 0 0, vi (X.2 (l5 + 1).toNatClampNeg), vp 43 0] (547, ([some (vs 0 0), some (vp 0 0), some (vp 31 0), some (vp 43 0), some (vp 44 0), some (vi l5), o6, o7, o8], ([], Gu u x m))) rfl rfl (Cl.mono h (Nat.le_refl _) ?_)
  rintro r ⟨v1, m2, u3, x4, rfl, h⟩
  · show Wp X (d + 1) 322 (547, ([some (vs 0 0), some (vp 0 0), some (vp 31 0), some (vp 43 0), some (vp 44 0), some (vi l5), o6, o7, o8], ([vi v1], Gu (u.1 + u3.1, u.2 + u3.2) x4 m2))) Q
    obtain ⟨hg2_0, h⟩ := h
    refine wp_run 7 (inb (l5 + 1) X.1 && true) (556, ([some (vs 0 0), some (vp 0 0), some (vp 31 0), some (vp 43 0), some (vp 44 0), some (vi l5), some (vi v1), o7, o8], ([vi (X.2 (l5 + 1).toNatClampNeg), vp 31 0], Gu (u.1 + u3.1, u.2 + u3.2) x4 m2))) rfl (and_t hg2_0 rfl) ?_
    refine wp_call 177 [vp 31 0, vi (X.2 (l5 + 1).toNatClampNeg)] (559, ([some (vs 0 0), some (vp 0 0), some (vp 31 0), some (vp 43 0), some (vp 44 0), some (vi l5), some (vi v1), o7, o8], ([], Gu (u.1 + u3.1, u.2 + u3.2) x4 m2))) rfl rfl (Cl.mono h (Nat.le_refl _) ?_)
    rintro r ⟨v5, m6, rfl, h⟩
    · show Wp X (d + 1) 322 (559, ([some (vs 0 0), some (vp 0 0), some (vp 31 0), some (vp 43 0), some (vp 44 0), some (vi l5), some (vi v1), o7, o8], ([vi v5], Gu (u.1 + u3.1, u.2 + u3.2) x4 m6))) Q
      refine wp_run 2 true (562, ([some (vs 0 0), some (vp 0 0), some (vp 31 0), some (vp 43 0), some (vp 44 0), some (vi l5), some (vi v1), some (vi v5), o8], ([vp 31 0], Gu (u.1 + u3.1, u.2 + u3.2) x4 m6))) rfl rfl ?_
      refine wp_call 146 [vp 31 0] (565, ([some (vs 0 0), some (vp 0 0), some (vp 31 0), some (vp 43 0), some (vp 44 0), some (vi l5), some (vi v1), some (vi v5), o8], ([], Gu (u.1 + u3.1, u.2 + u3.2) x4 m6))) rfl rfl (Cl.mono h (Nat.le_refl _) ?_)
      rintro r ⟨v7, m8, rfl, h⟩
      · show Wp X (d + 1) 322 (565, ([some (vs 0 0), some (vp 0 0), some (vp 31 0), some (vp 43 0), some (vp 44 0), some (vi l5), some (vi v1), some (vi v5), o8], ([vi v7], Gu (u.1 + u3.1, u.2 + u3.2) x4 m8))) Q
        refine wp_run 2 true ((bif decide (v7 = v1) then 572 else 570), ([some (vs 0 0), some (vp 0 0), some (vp 31 0), some (vp 43 0), some (vp 44 0), some (vi l5), some (vi v1), some (vi v5), o8], ([], Gu (u.1 + u3.1, u.2 + u3.2) x4 m8))) rfl rfl ?_
        refine wp_if (v7 = v1) (fun c9 => ?_) (fun c9 => ?_)
        · have h := h.1 c9
          refine wp_run 2 true ((bif decide (¬ v1 = 0) then 589 else 577), ([some (vs 0 0), some (vp 0 0), some (vp 31 0), some (vp 43 0), some (vp 44 0), some (vi l5), some (vi v1), some (vi v5), o8], ([], Gu (u.1 + u3.1, u.2 + u3.2) x4 m8))) rfl rfl ?_
          refine wp_if (¬ v1 = 0) (fun c10 => ?_) (fun c10 => ?_)
          · have h := h.1 c10
            refine wp_run 1 true (2999, ([some (vs 0 0), some (vp 0 0), some (vp 31 0), some (vp 43 0), some (vp 44 0), some (vi l5), some (vi v1), some (vi v5), o8], ([], Gu (u.1 + u3.1, u.2 + u3.2) x4 m8))) rfl rfl ?_
            exact h
          · have h := h.2 c10
            refine wp_run 7 true ((bif decide ((lg_cmp (x4.1) (v5.toInt64)) = 0) then 589 else 587), ([some (vs 0 0), some (vp 0 0), some (vp 31 0), some (vp 43 0), some (vp 44 0), some (vi l5), some (vi v1), some (vi v5), o8], ([], Gu (u.1 + u3.1, u.2 + u3.2) x4 m8))) rfl rfl ?_
            refine wp_if ((lg_cmp (x4.1) (v5.toInt64)) = 0) (fun c11 => ?_) (fun c11 => ?_)
            · have h := h.1 c11
              refine wp_run 1 true (2999, ([some (vs 0 0), some (vp 0 0), some (vp 31 0), some (vp 43 0), some (vp 44 0), some (vi l5), some (vi v1), some (vi v5), o8], ([], Gu (u.1 + u3.1, u.2 + u3.2) x4 m8))) rfl rfl ?_
              exact h
            · have h := h.2 c11
              refine wp_run 1 true (588, ([some (vs 0 0), some (vp 0 0), some (vp 31 0), some (vp 43 0), some (vp 44 0), some (vi l5), some (vi v1), some (vi v5), o8], ([vi 0], Gu (u.1 + u3.1, u.2 + u3.2) x4 m8))) rfl rfl ?_
              exact wp_ret rfl h
        · have h := h.2 c9
          refine wp_run 1 true (571, ([some (vs 0 0), some (vp 0 0), some (vp 31 0), some (vp 43 0), some (vp 44 0), some (vi l5), some (vi v1), some (vi v5), o8], ([vi 0], Gu (u.1 + u3.1, u.2 + u3.2) x4 m8))) rfl rfl ?_
          exact wp_ret rfl h
set_option maxRecDepth 100000 in
set_option maxHeartbeats 4000000 in
theorem vl_law_592 {X : MX} {d : Nat} {x : Int64 × UInt64} {m : MI} {Q : MRes → Prop} {u : Nat × Nat} {l5 : Int32} {o6 : Option MV} {o7 : Option MV} {o8 : Option MV} (h : (inb (l5 + 1) X.1 = true ∧ Cl X d 283 [vp 0 0, vi (((X.2 (l5 + 1).toNatClampNeg).toUInt32 % 65536).toInt32), vp 43 0] (Gu u x m) (fun r => ∃ (v1 : Int32) (m2 : MI) (u3 : Nat × Nat) (x4 : Int64 × UInt64), r = (.inl (some (vi v1)), Gu u3 x4 m2) ∧ (inb (l5 + 1) X.1 = true ∧ Cl X d 180 [vp 31 0, vi (((X.2 (l5 + 1).toNatClampNeg).toUInt32 % 65536).toInt32)] (Gu (u.1 + u3.1, u.2 + u3.2) x4 m2) (fun r => ∃ (v5 : Int32) (m6 : MI), r = (.inl (some (vi v5)), G x4 m6) ∧ Cl X d 146 [vp 31 0] (Gu (u.1 + u3.1, u.2 + u3.2) x4 m6) (fun r => ∃ (v7 : Int32) (m8 : MI), r = (.inl (some (vi v7)), G x4 m8) ∧ ((v7 = v1 → ((¬ v1 = 0 → Wp X (d + 1) 322 (2999, ([some (vs 0 0), some (vp 0 0), some (vp 31 0), some (vp 43 0), some (vp 44 0), some (vi l5), some (vi v1), some (vi v5), o8], ([], Gu (u.1 + u3.1, u.2 + u3.2) x4 m8))) Q) ∧ (¬ (¬ v1 = 0) → (((lg_cmp (x4.1) (v5.toInt64)) = 0 → Wp X (d + 1) 322 (2999, ([some (vs 0 0), some (vp 0 0), some (vp 31 0), some (vp 43 0), some (vp 44 0), some (vi l5), some (vi v1), some (vi v5), o8], ([], Gu (u.1 + u3.1, u.2 + u3.2) x4 m8))) Q) ∧ (¬ ((lg_cmp (x4.1) (v5.toInt64)) = 0) → Q (.inl (some (vi 0)), Gu (u.1 + u3.1, u.2 + u3.2) x4 m8)))))) ∧ (¬ (v7 = v1) → Q (.inl (some (vi 0)), Gu (u.1 + u3.1, u.2 + u3.2) x4 m8))))))))) : Wp X (d + 1) 322 (592, ([some (vs 0 0), some (vp 0 0), some (vp 31 0), some (vp 43 0), some (vp 44 0), some (vi l5), o6, o7, o8], ([], Gu u x m))) Q := by
  obtain ⟨hg1_0, h⟩ := h
  refine wp_run 8 (inb (l5 + 1) X.1 && true) (601, ([some (vs 0 0), some (vp 0 0), some (vp 31 0), some (vp 43 0), some (vp 44 0), some (vi l5), o6, o7, o8], ([vp 43 0, vi (((X.2 (l5 + 1).toNatClampNeg).toUInt32 % 65536).toInt32), vp 0 0], Gu u x m))) rfl (and_t hg1_0 rfl) ?_
  refine wp_call 283 [vp 0 0, vi (((X.2 (l5 + 1).toNatClampNeg).toUInt32 % 65536).toInt32), vp 43 0] (604, ([some (vs 0 0), some (vp 0 0), some (vp 31 0), some (vp 43 0), some (vp 44 0), some (vi l5), o6, o7, o8], ([], Gu u x m))) rfl rfl (Cl.mono h (Nat.le_refl _) ?_)
  rintro r ⟨v1, m2, u3, x4, rfl, h⟩
  · show Wp X (d + 1) 322 (604, ([some (vs 0 0), some (vp 0 0), some (vp 31 0), some (vp 43 0), some (vp 44 0), some (vi l5), o6, o7, o8], ([vi v1], Gu (u.1 + u3.1, u.2 + u3.2) x4 m2))) Q
    obtain ⟨hg2_0, h⟩ := h
    refine wp_run 8 (inb (l5 + 1) X.1 && true) (614, ([some (vs 0 0), some (vp 0 0), some (vp 31 0), some (vp 43 0), some (vp 44 0), some (vi l5), some (vi v1), o7, o8], ([vi (((X.2 (l5 + 1).toNatClampNeg).toUInt32 % 65536).toInt32), vp 31 0], Gu (u.1 + u3.1, u.2 + u3.2) x4 m2))) rfl (and_t hg2_0 rfl) ?_
    refine wp_call 180 [vp 31 0, vi (((X.2 (l5 + 1).toNatClampNeg).toUInt32 % 65536).toInt32)] (617, ([some (vs 0 0), some (vp 0 0), some (vp 31 0), some (vp 43 0), some (vp 44 0), some (vi l5), some (vi v1), o7, o8], ([], Gu (u.1 + u3.1, u.2 + u3.2) x4 m2))) rfl rfl (Cl.mono h (Nat.le_refl _) ?_)
    rintro r ⟨v5, m6, rfl, h⟩
    · show Wp X (d + 1) 322 (617, ([some (vs 0 0), some (vp 0 0), some (vp 31 0), some (vp 43 0), some (vp 44 0), some (vi l5), some (vi v1), o7, o8], ([vi v5], Gu (u.1 + u3.1, u.2 + u3.2) x4 m6))) Q
      refine wp_run 2 true (620, ([some (vs 0 0), some (vp 0 0), some (vp 31 0), some (vp 43 0), some (vp 44 0), some (vi l5), some (vi v1), some (vi v5), o8], ([vp 31 0], Gu (u.1 + u3.1, u.2 + u3.2) x4 m6))) rfl rfl ?_
      refine wp_call 146 [vp 31 0] (623, ([some (vs 0 0), some (vp 0 0), some (vp 31 0), some (vp 43 0), some (vp 44 0), some (vi l5), some (vi v1), some (vi v5), o8], ([], Gu (u.1 + u3.1, u.2 + u3.2) x4 m6))) rfl rfl (Cl.mono h (Nat.le_refl _) ?_)
      rintro r ⟨v7, m8, rfl, h⟩
      · show Wp X (d + 1) 322 (623, ([some (vs 0 0), some (vp 0 0), some (vp 31 0), some (vp 43 0), some (vp 44 0), some (vi l5), some (vi v1), some (vi v5), o8], ([vi v7], Gu (u.1 + u3.1, u.2 + u3.2) x4 m8))) Q
        refine wp_run 2 true ((bif decide (v7 = v1) then 630 else 628), ([some (vs 0 0), some (vp 0 0), some (vp 31 0), some (vp 43 0), some (vp 44 0), some (vi l5), some (vi v1), some (vi v5), o8], ([], Gu (u.1 + u3.1, u.2 + u3.2) x4 m8))) rfl rfl ?_
        refine wp_if (v7 = v1) (fun c9 => ?_) (fun c9 => ?_)
        · have h := h.1 c9
          refine wp_run 2 true ((bif decide (¬ v1 = 0) then 647 else 635), ([some (vs 0 0), some (vp 0 0), some (vp 31 0), some (vp 43 0), some (vp 44 0), some (vi l5), some (vi v1), some (vi v5), o8], ([], Gu (u.1 + u3.1, u.2 + u3.2) x4 m8))) rfl rfl ?_
          refine wp_if (¬ v1 = 0) (fun c10 => ?_) (fun c10 => ?_)
          · have h := h.1 c10
            refine wp_run 1 true (2999, ([some (vs 0 0), some (vp 0 0), some (vp 31 0), some (vp 43 0), some (vp 44 0), some (vi l5), some (vi v1), some (vi v5), o8], ([], Gu (u.1 + u3.1, u.2 + u3.2) x4 m8))) rfl rfl ?_
            exact h
          · have h := h.2 c10
            refine wp_run 7 true ((bif decide ((lg_cmp (x4.1) (v5.toInt64)) = 0) then 647 else 645), ([some (vs 0 0), some (vp 0 0), some (vp 31 0), some (vp 43 0), some (vp 44 0), some (vi l5), some (vi v1), some (vi v5), o8], ([], Gu (u.1 + u3.1, u.2 + u3.2) x4 m8))) rfl rfl ?_
            refine wp_if ((lg_cmp (x4.1) (v5.toInt64)) = 0) (fun c11 => ?_) (fun c11 => ?_)
            · have h := h.1 c11
              refine wp_run 1 true (2999, ([some (vs 0 0), some (vp 0 0), some (vp 31 0), some (vp 43 0), some (vp 44 0), some (vi l5), some (vi v1), some (vi v5), o8], ([], Gu (u.1 + u3.1, u.2 + u3.2) x4 m8))) rfl rfl ?_
              exact h
            · have h := h.2 c11
              refine wp_run 1 true (646, ([some (vs 0 0), some (vp 0 0), some (vp 31 0), some (vp 43 0), some (vp 44 0), some (vi l5), some (vi v1), some (vi v5), o8], ([vi 0], Gu (u.1 + u3.1, u.2 + u3.2) x4 m8))) rfl rfl ?_
              exact wp_ret rfl h
        · have h := h.2 c9
          refine wp_run 1 true (629, ([some (vs 0 0), some (vp 0 0), some (vp 31 0), some (vp 43 0), some (vp 44 0), some (vi l5), some (vi v1), some (vi v5), o8], ([vi 0], Gu (u.1 + u3.1, u.2 + u3.2) x4 m8))) rfl rfl ?_
          exact wp_ret rfl h
set_option maxRecDepth 100000 in
set_option maxHeartbeats 4000000 in
theorem vl_law_650 {X : MX} {d : Nat} {x : Int64 × UInt64} {m : MI} {Q : MRes → Prop} {u : Nat × Nat} {l5 : Int32} {o6 : Option MV} {o7 : Option MV} {o8 : Option MV} (h : (inb (l5 + 1) X.1 = true ∧ inb (l5 + 2) X.1 = true ∧ Cl X d 284 [vp 0 0, vi (X.2 (l5 + 1).toNatClampNeg), vi (X.2 (l5 + 2).toNatClampNeg), vp 43 0] (Gu u x m) (fun r => ∃ (v1 : Int32) (m2 : MI) (u3 : Nat × Nat) (x4 : Int64 × UInt64), r = (.inl (some (vi v1)), Gu u3 x4 m2) ∧ (inb (l5 + 1) X.1 = true ∧ inb (l5 + 2) X.1 = true ∧ Cl X d 183 [vp 31 0, vi (X.2 (l5 + 1).toNatClampNeg), vi (X.2 (l5 + 2).toNatClampNeg)] (Gu (u.1 + u3.1, u.2 + u3.2) x4 m2) (fun r => ∃ (v5 : Int32) (m6 : MI), r = (.inl (some (vi v5)), G x4 m6) ∧ Cl X d 146 [vp 31 0] (Gu (u.1 + u3.1, u.2 + u3.2) x4 m6) (fun r => ∃ (v7 : Int32) (m8 : MI), r = (.inl (some (vi v7)), G x4 m8) ∧ ((v7 = v1 → ((¬ v1 = 0 → Wp X (d + 1) 322 (2999, ([some (vs 0 0), some (vp 0 0), some (vp 31 0), some (vp 43 0), some (vp 44 0), some (vi l5), some (vi v1), some (vi v5), o8], ([], Gu (u.1 + u3.1, u.2 + u3.2) x4 m8))) Q) ∧ (¬ (¬ v1 = 0) → (((lg_cmp (x4.1) (v5.toInt64)) = 0 → Wp X (d + 1) 322 (2999, ([some (vs 0 0), some (vp 0 0), some (vp 31 0), some (vp 43 0), some (vp 44 0), some (vi l5), some (vi v1), some (vi v5), o8], ([], Gu (u.1 + u3.1, u.2 + u3.2) x4 m8))) Q) ∧ (¬ ((lg_cmp (x4.1) (v5.toInt64)) = 0) → Q (.inl (some (vi 0)), Gu (u.1 + u3.1, u.2 + u3.2) x4 m8)))))) ∧ (¬ (v7 = v1) → Q (.inl (some (vi 0)), Gu (u.1 + u3.1, u.2 + u3.2) x4 m8))))))))) : Wp X (d + 1) 322 (650, ([some (vs 0 0), some (vp 0 0), some (vp 31 0), some (vp 43 0), some (vp 44 0), some (vi l5), o6, o7, o8], ([], Gu u x m))) Q := by
  obtain ⟨hg1_0, hg1_1, h⟩ := h
  refine wp_run 12 (inb (l5 + 2) X.1 && (inb (l5 + 1) X.1 && true)) (664, ([some (vs 0 0), some (vp 0 0), some (vp 31 0), some (vp 43 0), some (vp 44 0), some (vi l5), o6, o7, o8], ([vp 43 0, vi (X.2 (l5 + 2).toNatClampNeg), vi (X.2 (l5 + 1).toNatClampNeg), vp 0 0], Gu u x m))) rfl (and_t hg1_1 (and_t hg1_0 rfl)) ?_
  refine wp_call 284 [vp 0 0, vi (X.2 (l5 + 1).toNatClampNeg), vi (X.2 (l5 + 2).toNatClampNeg), vp 43 0] (667, ([some (vs 0 0), some (vp 0 0), some (vp 31 0), some (vp 43 0), some (vp 44 0), some (vi l5), o6, o7, o8], ([], Gu u x m))) rfl rfl (Cl.mono h (Nat.le_refl _) ?_)
  rintro r ⟨v1, m2, u3, x4, rfl, h⟩
  · show Wp X (d + 1) 322 (667, ([some (vs 0 0), some (vp 0 0), some (vp 31 0), some (vp 43 0), some (vp 44 0), some (vi l5), o6, o7, o8], ([vi v1], Gu (u.1 + u3.1, u.2 + u3.2) x4 m2))) Q
    obtain ⟨hg2_0, hg2_1, h⟩ := h
    refine wp_run 12 (inb (l5 + 2) X.1 && (inb (l5 + 1) X.1 && true)) (682, ([some (vs 0 0), some (vp 0 0), some (vp 31 0), some (vp 43 0), some (vp 44 0), some (vi l5), some (vi v1), o7, o8], ([vi (X.2 (l5 + 2).toNatClampNeg), vi (X.2 (l5 + 1).toNatClampNeg), vp 31 0], Gu (u.1 + u3.1, u.2 + u3.2) x4 m2))) rfl (and_t hg2_1 (and_t hg2_0 rfl)) ?_
    refine wp_call 183 [vp 31 0, vi (X.2 (l5 + 1).toNatClampNeg), vi (X.2 (l5 + 2).toNatClampNeg)] (685, ([some (vs 0 0), some (vp 0 0), some (vp 31 0), some (vp 43 0), some (vp 44 0), some (vi l5), some (vi v1), o7, o8], ([], Gu (u.1 + u3.1, u.2 + u3.2) x4 m2))) rfl rfl (Cl.mono h (Nat.le_refl _) ?_)
    rintro r ⟨v5, m6, rfl, h⟩
    · show Wp X (d + 1) 322 (685, ([some (vs 0 0), some (vp 0 0), some (vp 31 0), some (vp 43 0), some (vp 44 0), some (vi l5), some (vi v1), o7, o8], ([vi v5], Gu (u.1 + u3.1, u.2 + u3.2) x4 m6))) Q
      refine wp_run 2 true (688, ([some (vs 0 0), some (vp 0 0), some (vp 31 0), some (vp 43 0), some (vp 44 0), some (vi l5), some (vi v1), some (vi v5), o8], ([vp 31 0], Gu (u.1 + u3.1, u.2 + u3.2) x4 m6))) rfl rfl ?_
      refine wp_call 146 [vp 31 0] (691, ([some (vs 0 0), some (vp 0 0), some (vp 31 0), some (vp 43 0), some (vp 44 0), some (vi l5), some (vi v1), some (vi v5), o8], ([], Gu (u.1 + u3.1, u.2 + u3.2) x4 m6))) rfl rfl (Cl.mono h (Nat.le_refl _) ?_)
      rintro r ⟨v7, m8, rfl, h⟩
      · show Wp X (d + 1) 322 (691, ([some (vs 0 0), some (vp 0 0), some (vp 31 0), some (vp 43 0), some (vp 44 0), some (vi l5), some (vi v1), some (vi v5), o8], ([vi v7], Gu (u.1 + u3.1, u.2 + u3.2) x4 m8))) Q
        refine wp_run 2 true ((bif decide (v7 = v1) then 698 else 696), ([some (vs 0 0), some (vp 0 0), some (vp 31 0), some (vp 43 0), some (vp 44 0), some (vi l5), some (vi v1), some (vi v5), o8], ([], Gu (u.1 + u3.1, u.2 + u3.2) x4 m8))) rfl rfl ?_
        refine wp_if (v7 = v1) (fun c9 => ?_) (fun c9 => ?_)
        · have h := h.1 c9
          refine wp_run 2 true ((bif decide (¬ v1 = 0) then 715 else 703), ([some (vs 0 0), some (vp 0 0), some (vp 31 0), some (vp 43 0), some (vp 44 0), some (vi l5), some (vi v1), some (vi v5), o8], ([], Gu (u.1 + u3.1, u.2 + u3.2) x4 m8))) rfl rfl ?_
          refine wp_if (¬ v1 = 0) (fun c10 => ?_) (fun c10 => ?_)
          · have h := h.1 c10
            refine wp_run 1 true (2999, ([some (vs 0 0), some (vp 0 0), some (vp 31 0), some (vp 43 0), some (vp 44 0), some (vi l5), some (vi v1), some (vi v5), o8], ([], Gu (u.1 + u3.1, u.2 + u3.2) x4 m8))) rfl rfl ?_
            exact h
          · have h := h.2 c10
            refine wp_run 7 true ((bif decide ((lg_cmp (x4.1) (v5.toInt64)) = 0) then 715 else 713), ([some (vs 0 0), some (vp 0 0), some (vp 31 0), some (vp 43 0), some (vp 44 0), some (vi l5), some (vi v1), some (vi v5), o8], ([], Gu (u.1 + u3.1, u.2 + u3.2) x4 m8))) rfl rfl ?_
            refine wp_if ((lg_cmp (x4.1) (v5.toInt64)) = 0) (fun c11 => ?_) (fun c11 => ?_)
            · have h := h.1 c11
              refine wp_run 1 true (2999, ([some (vs 0 0), some (vp 0 0), some (vp 31 0), some (vp 43 0), some (vp 44 0), some (vi l5), some (vi v1), some (vi v5), o8], ([], Gu (u.1 + u3.1, u.2 + u3.2) x4 m8))) rfl rfl ?_
              exact h
            · have h := h.2 c11
              refine wp_run 1 true (714, ([some (vs 0 0), some (vp 0 0), some (vp 31 0), some (vp 43 0), some (vp 44 0), some (vi l5), some (vi v1), some (vi v5), o8], ([vi 0], Gu (u.1 + u3.1, u.2 + u3.2) x4 m8))) rfl rfl ?_
              exact wp_ret rfl h
        · have h := h.2 c9
          refine wp_run 1 true (697, ([some (vs 0 0), some (vp 0 0), some (vp 31 0), some (vp 43 0), some (vp 44 0), some (vi l5), some (vi v1), some (vi v5), o8], ([vi 0], Gu (u.1 + u3.1, u.2 + u3.2) x4 m8))) rfl rfl ?_
          exact wp_ret rfl h
set_option maxRecDepth 100000 in
set_option maxHeartbeats 4000000 in
theorem vl_law_718 {X : MX} {d : Nat} {x : Int64 × UInt64} {m : MI} {Q : MRes → Prop} {u : Nat × Nat} {l5 : Int32} {o6 : Option MV} {o7 : Option MV} {o8 : Option MV} (h : Cl X d 7 [vp 0 0] (Gu u x m) (fun r => ∃ (v1 : Int32) (m2 : MI), r = (.inl (some (vi v1)), G x m2) ∧ Cl X d 184 [vp 31 0] (Gu u x m2) (fun r => ∃ (v3 : Int32) (m4 : MI), r = (.inl (some (vi v3)), G x m4) ∧ ((v1 = v3 → Wp X (d + 1) 322 (2999, ([some (vs 0 0), some (vp 0 0), some (vp 31 0), some (vp 43 0), some (vp 44 0), some (vi l5), o6, o7, o8], ([], Gu u x m4))) Q) ∧ (¬ (v1 = v3) → Q (.inl (some (vi 0)), Gu u x m4)))))) : Wp X (d + 1) 322 (718, ([some (vs 0 0), some (vp 0 0), some (vp 31 0), some (vp 43 0), some (vp 44 0), some (vi l5), o6, o7, o8], ([], Gu u x m))) Q := by
  refine wp_run 1 true (719, ([some (vs 0 0), some (vp 0 0), some (vp 31 0), some (vp 43 0), some (vp 44 0), some (vi l5), o6, o7, o8], ([vp 0 0], Gu u x m))) rfl rfl ?_
  refine wp_call 7 [vp 0 0] (722, ([some (vs 0 0), some (vp 0 0), some (vp 31 0), some (vp 43 0), some (vp 44 0), some (vi l5), o6, o7, o8], ([], Gu u x m))) rfl rfl (Cl.mono h (Nat.le_refl _) ?_)
  rintro r ⟨v1, m2, rfl, h⟩
  · show Wp X (d + 1) 322 (722, ([some (vs 0 0), some (vp 0 0), some (vp 31 0), some (vp 43 0), some (vp 44 0), some (vi l5), o6, o7, o8], ([vi v1], Gu u x m2))) Q
    refine wp_run 1 true (723, ([some (vs 0 0), some (vp 0 0), some (vp 31 0), some (vp 43 0), some (vp 44 0), some (vi l5), o6, o7, o8], ([vp 31 0, vi v1], Gu u x m2))) rfl rfl ?_
    refine wp_call 184 [vp 31 0] (726, ([some (vs 0 0), some (vp 0 0), some (vp 31 0), some (vp 43 0), some (vp 44 0), some (vi l5), o6, o7, o8], ([vi v1], Gu u x m2))) rfl rfl (Cl.mono h (Nat.le_refl _) ?_)
    rintro r ⟨v3, m4, rfl, h⟩
    · show Wp X (d + 1) 322 (726, ([some (vs 0 0), some (vp 0 0), some (vp 31 0), some (vp 43 0), some (vp 44 0), some (vi l5), o6, o7, o8], ([vi v3, vi v1], Gu u x m4))) Q
      refine wp_run 1 true ((bif decide (v1 = v3) then 2999 else 729), ([some (vs 0 0), some (vp 0 0), some (vp 31 0), some (vp 43 0), some (vp 44 0), some (vi l5), o6, o7, o8], ([], Gu u x m4))) rfl rfl ?_
      refine wp_if (v1 = v3) (fun c5 => ?_) (fun c5 => ?_)
      · have h := h.1 c5
        exact h
      · have h := h.2 c5
        refine wp_run 1 true (730, ([some (vs 0 0), some (vp 0 0), some (vp 31 0), some (vp 43 0), some (vp 44 0), some (vi l5), o6, o7, o8], ([vi 0], Gu u x m4))) rfl rfl ?_
        exact wp_ret rfl h
set_option maxRecDepth 100000 in
set_option maxHeartbeats 4000000 in
theorem vl_law_731 {X : MX} {d : Nat} {x : Int64 × UInt64} {m : MI} {Q : MRes → Prop} {u : Nat × Nat} {l5 : Int32} {o6 : Option MV} {o7 : Option MV} {o8 : Option MV} (h : (inb (l5 + 1) X.1 = true ∧ inb (l5 + 2) X.1 = true ∧ Cl X d 285 [vp 0 0, vi (X.2 (l5 + 1).toNatClampNeg), vi (X.2 (l5 + 2).toNatClampNeg), vp 43 0] (Gu u x m) (fun r => ∃ (v1 : Int32) (m2 : MI) (u3 : Nat × Nat) (x4 : Int64 × UInt64), r = (.inl (some (vi v1)), Gu u3 x4 m2) ∧ (inb (l5 + 1) X.1 = true ∧ inb (l5 + 2) X.1 = true ∧ Cl X d 188 [vp 31 0, vi (X.2 (l5 + 1).toNatClampNeg), vi (X.2 (l5 + 2).toNatClampNeg)] (Gu (u.1 + u3.1, u.2 + u3.2) x4 m2) (fun r => ∃ (v5 : Int32) (m6 : MI), r = (.inl (some (vi v5)), G x4 m6) ∧ Cl X d 146 [vp 31 0] (Gu (u.1 + u3.1, u.2 + u3.2) x4 m6) (fun r => ∃ (v7 : Int32) (m8 : MI), r = (.inl (some (vi v7)), G x4 m8) ∧ ((v7 = v1 → ((¬ v1 = 0 → Wp X (d + 1) 322 (2999, ([some (vs 0 0), some (vp 0 0), some (vp 31 0), some (vp 43 0), some (vp 44 0), some (vi l5), some (vi v1), some (vi v5), o8], ([], Gu (u.1 + u3.1, u.2 + u3.2) x4 m8))) Q) ∧ (¬ (¬ v1 = 0) → (((lg_cmp (x4.1) (v5.toInt64)) = 0 → Wp X (d + 1) 322 (2999, ([some (vs 0 0), some (vp 0 0), some (vp 31 0), some (vp 43 0), some (vp 44 0), some (vi l5), some (vi v1), some (vi v5), o8], ([], Gu (u.1 + u3.1, u.2 + u3.2) x4 m8))) Q) ∧ (¬ ((lg_cmp (x4.1) (v5.toInt64)) = 0) → Q (.inl (some (vi 0)), Gu (u.1 + u3.1, u.2 + u3.2) x4 m8)))))) ∧ (¬ (v7 = v1) → Q (.inl (some (vi 0)), Gu (u.1 + u3.1, u.2 + u3.2) x4 m8))))))))) : Wp X (d + 1) 322 (731, ([some (vs 0 0), some (vp 0 0), some (vp 31 0), some (vp 43 0), some (vp 44 0), some (vi l5), o6, o7, o8], ([], Gu u x m))) Q := by
  obtain ⟨hg1_0, hg1_1, h⟩ := h
  refine wp_run 12 (inb (l5 + 2) X.1 && (inb (l5 + 1) X.1 && true)) (745, ([some (vs 0 0), some (vp 0 0), some (vp 31 0), some (vp 43 0), some (vp 44 0), some (vi l5), o6, o7, o8], ([vp 43 0, vi (X.2 (l5 + 2).toNatClampNeg), vi (X.2 (l5 + 1).toNatClampNeg), vp 0 0], Gu u x m))) rfl (and_t hg1_1 (and_t hg1_0 rfl)) ?_
  refine wp_call 285 [vp 0 0, vi (X.2 (l5 + 1).toNatClampNeg), vi (X.2 (l5 + 2).toNatClampNeg), vp 43 0] (748, ([some (vs 0 0), some (vp 0 0), some (vp 31 0), some (vp 43 0), some (vp 44 0), some (vi l5), o6, o7, o8], ([], Gu u x m))) rfl rfl (Cl.mono h (Nat.le_refl _) ?_)
  rintro r ⟨v1, m2, u3, x4, rfl, h⟩
  · show Wp X (d + 1) 322 (748, ([some (vs 0 0), some (vp 0 0), some (vp 31 0), some (vp 43 0), some (vp 44 0), some (vi l5), o6, o7, o8], ([vi v1], Gu (u.1 + u3.1, u.2 + u3.2) x4 m2))) Q
    obtain ⟨hg2_0, hg2_1, h⟩ := h
    refine wp_run 12 (inb (l5 + 2) X.1 && (inb (l5 + 1) X.1 && true)) (763, ([some (vs 0 0), some (vp 0 0), some (vp 31 0), some (vp 43 0), some (vp 44 0), some (vi l5), some (vi v1), o7, o8], ([vi (X.2 (l5 + 2).toNatClampNeg), vi (X.2 (l5 + 1).toNatClampNeg), vp 31 0], Gu (u.1 + u3.1, u.2 + u3.2) x4 m2))) rfl (and_t hg2_1 (and_t hg2_0 rfl)) ?_
    refine wp_call 188 [vp 31 0, vi (X.2 (l5 + 1).toNatClampNeg), vi (X.2 (l5 + 2).toNatClampNeg)] (766, ([some (vs 0 0), some (vp 0 0), some (vp 31 0), some (vp 43 0), some (vp 44 0), some (vi l5), some (vi v1), o7, o8], ([], Gu (u.1 + u3.1, u.2 + u3.2) x4 m2))) rfl rfl (Cl.mono h (Nat.le_refl _) ?_)
    rintro r ⟨v5, m6, rfl, h⟩
    · show Wp X (d + 1) 322 (766, ([some (vs 0 0), some (vp 0 0), some (vp 31 0), some (vp 43 0), some (vp 44 0), some (vi l5), some (vi v1), o7, o8], ([vi v5], Gu (u.1 + u3.1, u.2 + u3.2) x4 m6))) Q
      refine wp_run 2 true (769, ([some (vs 0 0), some (vp 0 0), some (vp 31 0), some (vp 43 0), some (vp 44 0), some (vi l5), some (vi v1), some (vi v5), o8], ([vp 31 0], Gu (u.1 + u3.1, u.2 + u3.2) x4 m6))) rfl rfl ?_
      refine wp_call 146 [vp 31 0] (772, ([some (vs 0 0), some (vp 0 0), some (vp 31 0), some (vp 43 0), some (vp 44 0), some (vi l5), some (vi v1), some (vi v5), o8], ([], Gu (u.1 + u3.1, u.2 + u3.2) x4 m6))) rfl rfl (Cl.mono h (Nat.le_refl _) ?_)
      rintro r ⟨v7, m8, rfl, h⟩
      · show Wp X (d + 1) 322 (772, ([some (vs 0 0), some (vp 0 0), some (vp 31 0), some (vp 43 0), some (vp 44 0), some (vi l5), some (vi v1), some (vi v5), o8], ([vi v7], Gu (u.1 + u3.1, u.2 + u3.2) x4 m8))) Q
        refine wp_run 2 true ((bif decide (v7 = v1) then 779 else 777), ([some (vs 0 0), some (vp 0 0), some (vp 31 0), some (vp 43 0), some (vp 44 0), some (vi l5), some (vi v1), some (vi v5), o8], ([], Gu (u.1 + u3.1, u.2 + u3.2) x4 m8))) rfl rfl ?_
        refine wp_if (v7 = v1) (fun c9 => ?_) (fun c9 => ?_)
        · have h := h.1 c9
          refine wp_run 2 true ((bif decide (¬ v1 = 0) then 796 else 784), ([some (vs 0 0), some (vp 0 0), some (vp 31 0), some (vp 43 0), some (vp 44 0), some (vi l5), some (vi v1), some (vi v5), o8], ([], Gu (u.1 + u3.1, u.2 + u3.2) x4 m8))) rfl rfl ?_
          refine wp_if (¬ v1 = 0) (fun c10 => ?_) (fun c10 => ?_)
          · have h := h.1 c10
            refine wp_run 1 true (2999, ([some (vs 0 0), some (vp 0 0), some (vp 31 0), some (vp 43 0), some (vp 44 0), some (vi l5), some (vi v1), some (vi v5), o8], ([], Gu (u.1 + u3.1, u.2 + u3.2) x4 m8))) rfl rfl ?_
            exact h
          · have h := h.2 c10
            refine wp_run 7 true ((bif decide ((lg_cmp (x4.1) (v5.toInt64)) = 0) then 796 else 794), ([some (vs 0 0), some (vp 0 0), some (vp 31 0), some (vp 43 0), some (vp 44 0), some (vi l5), some (vi v1), some (vi v5), o8], ([], Gu (u.1 + u3.1, u.2 + u3.2) x4 m8))) rfl rfl ?_
            refine wp_if ((lg_cmp (x4.1) (v5.toInt64)) = 0) (fun c11 => ?_) (fun c11 => ?_)
            · have h := h.1 c11
              refine wp_run 1 true (2999, ([some (vs 0 0), some (vp 0 0), some (vp 31 0), some (vp 43 0), some (vp 44 0), some (vi l5), some (vi v1), some (vi v5), o8], ([], Gu (u.1 + u3.1, u.2 + u3.2) x4 m8))) rfl rfl ?_
              exact h
            · have h := h.2 c11
              refine wp_run 1 true (795, ([some (vs 0 0), some (vp 0 0), some (vp 31 0), some (vp 43 0), some (vp 44 0), some (vi l5), some (vi v1), some (vi v5), o8], ([vi 0], Gu (u.1 + u3.1, u.2 + u3.2) x4 m8))) rfl rfl ?_
              exact wp_ret rfl h
        · have h := h.2 c9
          refine wp_run 1 true (778, ([some (vs 0 0), some (vp 0 0), some (vp 31 0), some (vp 43 0), some (vp 44 0), some (vi l5), some (vi v1), some (vi v5), o8], ([vi 0], Gu (u.1 + u3.1, u.2 + u3.2) x4 m8))) rfl rfl ?_
          exact wp_ret rfl h
set_option maxRecDepth 100000 in
set_option maxHeartbeats 4000000 in
theorem vl_law_799 {X : MX} {d : Nat} {x : Int64 × UInt64} {m : MI} {Q : MRes → Prop} {u : Nat × Nat} {l5 : Int32} {o6 : Option MV} {o7 : Option MV} {o8 : Option MV} (h : (inb (l5 + 1) X.1 = true ∧ Cl X d 286 [vp 0 0, vi (X.2 (l5 + 1).toNatClampNeg), vp 43 0] (Gu u x m) (fun r => ∃ (v1 : Int32) (m2 : MI) (u3 : Nat × Nat) (x4 : Int64 × UInt64), r = (.inl (some (vi v1)), Gu u3 x4 m2) ∧ (inb (l5 + 1) X.1 = true ∧ Cl X d 194 [vp 31 0, vi (X.2 (l5 + 1).toNatClampNeg)] (Gu (u.1 + u3.1, u.2 + u3.2) x4 m2) (fun r => ∃ (v5 : Int32) (m6 : MI), r = (.inl (some (vi v5)), G x4 m6) ∧ Cl X d 146 [vp 31 0] (Gu (u.1 + u3.1, u.2 + u3.2) x4 m6) (fun r => ∃ (v7 : Int32) (m8 : MI), r = (.inl (some (vi v7)), G x4 m8) ∧ ((v7 = v1 → ((¬ v1 = 0 → Wp X (d + 1) 322 (2999, ([some (vs 0 0), some (vp 0 0), some (vp 31 0), some (vp 43 0), some (vp 44 0), some (vi l5), some (vi v1), some (vi v5), o8], ([], Gu (u.1 + u3.1, u.2 + u3.2) x4 m8))) Q) ∧ (¬ (¬ v1 = 0) → (((lg_cmp (x4.1) (v5.toInt64)) = 0 → Wp X (d + 1) 322 (2999, ([some (vs 0 0), some (vp 0 0), some (vp 31 0), some (vp 43 0), some (vp 44 0), some (vi l5), some (vi v1), some (vi v5), o8], ([], Gu (u.1 + u3.1, u.2 + u3.2) x4 m8))) Q) ∧ (¬ ((lg_cmp (x4.1) (v5.toInt64)) = 0) → Q (.inl (some (vi 0)), Gu (u.1 + u3.1, u.2 + u3.2) x4 m8)))))) ∧ (¬ (v7 = v1) → Q (.inl (some (vi 0)), Gu (u.1 + u3.1, u.2 + u3.2) x4 m8))))))))) : Wp X (d + 1) 322 (799, ([some (vs 0 0), some (vp 0 0), some (vp 31 0), some (vp 43 0), some (vp 44 0), some (vi l5), o6, o7, o8], ([], Gu u x m))) Q := by
  obtain ⟨hg1_0, h⟩ := h
  refine wp_run 7 (inb (l5 + 1) X.1 && true) (807, ([some (vs 0 0), some (vp 0 0), some (vp 31 0), some (vp 43 0), some (vp 44 0), some (vi l5), o6, o7, o8], ([vp 43 0, vi (X.2 (l5 + 1).toNatClampNeg), vp 0 0], Gu u x m))) rfl (and_t hg1_0 rfl) ?_
  refine wp_call 286 [vp 0 0, vi (X.2 (l5 + 1).toNatClampNeg), vp 43 0] (810, ([some (vs 0 0), some (vp 0 0), some (vp 31 0), some (vp 43 0), some (vp 44 0), some (vi l5), o6, o7, o8], ([], Gu u x m))) rfl rfl (Cl.mono h (Nat.le_refl _) ?_)
  rintro r ⟨v1, m2, u3, x4, rfl, h⟩
  · show Wp X (d + 1) 322 (810, ([some (vs 0 0), some (vp 0 0), some (vp 31 0), some (vp 43 0), some (vp 44 0), some (vi l5), o6, o7, o8], ([vi v1], Gu (u.1 + u3.1, u.2 + u3.2) x4 m2))) Q
    obtain ⟨hg2_0, h⟩ := h
    refine wp_run 7 (inb (l5 + 1) X.1 && true) (819, ([some (vs 0 0), some (vp 0 0), some (vp 31 0), some (vp 43 0), some (vp 44 0), some (vi l5), some (vi v1), o7, o8], ([vi (X.2 (l5 + 1).toNatClampNeg), vp 31 0], Gu (u.1 + u3.1, u.2 + u3.2) x4 m2))) rfl (and_t hg2_0 rfl) ?_
    refine wp_call 194 [vp 31 0, vi (X.2 (l5 + 1).toNatClampNeg)] (822, ([some (vs 0 0), some (vp 0 0), some (vp 31 0), some (vp 43 0), some (vp 44 0), some (vi l5), some (vi v1), o7, o8], ([], Gu (u.1 + u3.1, u.2 + u3.2) x4 m2))) rfl rfl (Cl.mono h (Nat.le_refl _) ?_)
    rintro r ⟨v5, m6, rfl, h⟩
    · show Wp X (d + 1) 322 (822, ([some (vs 0 0), some (vp 0 0), some (vp 31 0), some (vp 43 0), some (vp 44 0), some (vi l5), some (vi v1), o7, o8], ([vi v5], Gu (u.1 + u3.1, u.2 + u3.2) x4 m6))) Q
      refine wp_run 2 true (825, ([some (vs 0 0), some (vp 0 0), some (vp 31 0), some (vp 43 0), some (vp 44 0), some (vi l5), some (vi v1), some (vi v5), o8], ([vp 31 0], Gu (u.1 + u3.1, u.2 + u3.2) x4 m6))) rfl rfl ?_
      refine wp_call 146 [vp 31 0] (828, ([some (vs 0 0), some (vp 0 0), some (vp 31 0), some (vp 43 0), some (vp 44 0), some (vi l5), some (vi v1), some (vi v5), o8], ([], Gu (u.1 + u3.1, u.2 + u3.2) x4 m6))) rfl rfl (Cl.mono h (Nat.le_refl _) ?_)
      rintro r ⟨v7, m8, rfl, h⟩
      · show Wp X (d + 1) 322 (828, ([some (vs 0 0), some (vp 0 0), some (vp 31 0), some (vp 43 0), some (vp 44 0), some (vi l5), some (vi v1), some (vi v5), o8], ([vi v7], Gu (u.1 + u3.1, u.2 + u3.2) x4 m8))) Q
        refine wp_run 2 true ((bif decide (v7 = v1) then 835 else 833), ([some (vs 0 0), some (vp 0 0), some (vp 31 0), some (vp 43 0), some (vp 44 0), some (vi l5), some (vi v1), some (vi v5), o8], ([], Gu (u.1 + u3.1, u.2 + u3.2) x4 m8))) rfl rfl ?_
        refine wp_if (v7 = v1) (fun c9 => ?_) (fun c9 => ?_)
        · have h := h.1 c9
          refine wp_run 2 true ((bif decide (¬ v1 = 0) then 852 else 840), ([some (vs 0 0), some (vp 0 0), some (vp 31 0), some (vp 43 0), some (vp 44 0), some (vi l5), some (vi v1), some (vi v5), o8], ([], Gu (u.1 + u3.1, u.2 + u3.2) x4 m8))) rfl rfl ?_
          refine wp_if (¬ v1 = 0) (fun c10 => ?_) (fun c10 => ?_)
          · have h := h.1 c10
            refine wp_run 1 true (2999, ([some (vs 0 0), some (vp 0 0), some (vp 31 0), some (vp 43 0), some (vp 44 0), some (vi l5), some (vi v1), some (vi v5), o8], ([], Gu (u.1 + u3.1, u.2 + u3.2) x4 m8))) rfl rfl ?_
            exact h
          · have h := h.2 c10
            refine wp_run 7 true ((bif decide ((lg_cmp (x4.1) (v5.toInt64)) = 0) then 852 else 850), ([some (vs 0 0), some (vp 0 0), some (vp 31 0), some (vp 43 0), some (vp 44 0), some (vi l5), some (vi v1), some (vi v5), o8], ([], Gu (u.1 + u3.1, u.2 + u3.2) x4 m8))) rfl rfl ?_
            refine wp_if ((lg_cmp (x4.1) (v5.toInt64)) = 0) (fun c11 => ?_) (fun c11 => ?_)
            · have h := h.1 c11
              refine wp_run 1 true (2999, ([some (vs 0 0), some (vp 0 0), some (vp 31 0), some (vp 43 0), some (vp 44 0), some (vi l5), some (vi v1), some (vi v5), o8], ([], Gu (u.1 + u3.1, u.2 + u3.2) x4 m8))) rfl rfl ?_
              exact h
            · have h := h.2 c11
              refine wp_run 1 true (851, ([some (vs 0 0), some (vp 0 0), some (vp 31 0), some (vp 43 0), some (vp 44 0), some (vi l5), some (vi v1), some (vi v5), o8], ([vi 0], Gu (u.1 + u3.1, u.2 + u3.2) x4 m8))) rfl rfl ?_
              exact wp_ret rfl h
        · have h := h.2 c9
          refine wp_run 1 true (834, ([some (vs 0 0), some (vp 0 0), some (vp 31 0), some (vp 43 0), some (vp 44 0), some (vi l5), some (vi v1), some (vi v5), o8], ([vi 0], Gu (u.1 + u3.1, u.2 + u3.2) x4 m8))) rfl rfl ?_
          exact wp_ret rfl h
set_option maxRecDepth 100000 in
set_option maxHeartbeats 4000000 in
theorem vl_law_855 {X : MX} {d : Nat} {x : Int64 × UInt64} {m : MI} {Q : MRes → Prop} {u : Nat × Nat} {l5 : Int32} {o6 : Option MV} {o7 : Option MV} {o8 : Option MV} (h : Cl X d 10 [vp 0 0] (Gu u x m) (fun r => ∃ (v1 : Int32) (m2 : MI), r = (.inl (some (vi v1)), G x m2) ∧ Cl X d 197 [vp 31 0] (Gu u x m2) (fun r => ∃ (v3 : Int32) (m4 : MI), r = (.inl (some (vi v3)), G x m4) ∧ ((v1 = v3 → Wp X (d + 1) 322 (2999, ([some (vs 0 0), some (vp 0 0), some (vp 31 0), some (vp 43 0), some (vp 44 0), some (vi l5), o6, o7, o8], ([], Gu u x m4))) Q) ∧ (¬ (v1 = v3) → Q (.inl (some (vi 0)), Gu u x m4)))))) : Wp X (d + 1) 322 (855, ([some (vs 0 0), some (vp 0 0), some (vp 31 0), some (vp 43 0), some (vp 44 0), some (vi l5), o6, o7, o8], ([], Gu u x m))) Q := by
  refine wp_run 1 true (856, ([some (vs 0 0), some (vp 0 0), some (vp 31 0), some (vp 43 0), some (vp 44 0), some (vi l5), o6, o7, o8], ([vp 0 0], Gu u x m))) rfl rfl ?_
  refine wp_call 10 [vp 0 0] (859, ([some (vs 0 0), some (vp 0 0), some (vp 31 0), some (vp 43 0), some (vp 44 0), some (vi l5), o6, o7, o8], ([], Gu u x m))) rfl rfl (Cl.mono h (Nat.le_refl _) ?_)
  rintro r ⟨v1, m2, rfl, h⟩
  · show Wp X (d + 1) 322 (859, ([some (vs 0 0), some (vp 0 0), some (vp 31 0), some (vp 43 0), some (vp 44 0), some (vi l5), o6, o7, o8], ([vi v1], Gu u x m2))) Q
    refine wp_run 1 true (860, ([some (vs 0 0), some (vp 0 0), some (vp 31 0), some (vp 43 0), some (vp 44 0), some (vi l5), o6, o7, o8], ([vp 31 0, vi v1], Gu u x m2))) rfl rfl ?_
    refine wp_call 197 [vp 31 0] (863, ([some (vs 0 0), some (vp 0 0), some (vp 31 0), some (vp 43 0), some (vp 44 0), some (vi l5), o6, o7, o8], ([vi v1], Gu u x m2))) rfl rfl (Cl.mono h (Nat.le_refl _) ?_)
    rintro r ⟨v3, m4, rfl, h⟩
    · show Wp X (d + 1) 322 (863, ([some (vs 0 0), some (vp 0 0), some (vp 31 0), some (vp 43 0), some (vp 44 0), some (vi l5), o6, o7, o8], ([vi v3, vi v1], Gu u x m4))) Q
      refine wp_run 1 true ((bif decide (v1 = v3) then 2999 else 866), ([some (vs 0 0), some (vp 0 0), some (vp 31 0), some (vp 43 0), some (vp 44 0), some (vi l5), o6, o7, o8], ([], Gu u x m4))) rfl rfl ?_
      refine wp_if (v1 = v3) (fun c5 => ?_) (fun c5 => ?_)
      · have h := h.1 c5
        exact h
      · have h := h.2 c5
        refine wp_run 1 true (867, ([some (vs 0 0), some (vp 0 0), some (vp 31 0), some (vp 43 0), some (vp 44 0), some (vi l5), o6, o7, o8], ([vi 0], Gu u x m4))) rfl rfl ?_
        exact wp_ret rfl h
set_option maxRecDepth 100000 in
set_option maxHeartbeats 4000000 in
theorem vl_law_868 {X : MX} {d : Nat} {x : Int64 × UInt64} {m : MI} {Q : MRes → Prop} {u : Nat × Nat} {l5 : Int32} {o6 : Option MV} {o7 : Option MV} {o8 : Option MV} (h : (inb (l5 + 1) X.1 = true ∧ Cl X d 287 [vp 0 0, vi (X.2 (l5 + 1).toNatClampNeg), vp 43 0] (Gu u x m) (fun r => ∃ (v1 : Int32) (m2 : MI) (u3 : Nat × Nat) (x4 : Int64 × UInt64), r = (.inl (some (vi v1)), Gu u3 x4 m2) ∧ (inb (l5 + 1) X.1 = true ∧ Cl X d 198 [vp 31 0, vi (X.2 (l5 + 1).toNatClampNeg)] (Gu (u.1 + u3.1, u.2 + u3.2) x4 m2) (fun r => ∃ (v5 : Int32) (m6 : MI), r = (.inl (some (vi v5)), G x4 m6) ∧ Cl X d 146 [vp 31 0] (Gu (u.1 + u3.1, u.2 + u3.2) x4 m6) (fun r => ∃ (v7 : Int32) (m8 : MI), r = (.inl (some (vi v7)), G x4 m8) ∧ ((v7 = v1 → ((¬ v1 = 0 → Wp X (d + 1) 322 (2999, ([some (vs 0 0), some (vp 0 0), some (vp 31 0), some (vp 43 0), some (vp 44 0), some (vi l5), some (vi v1), some (vi v5), o8], ([], Gu (u.1 + u3.1, u.2 + u3.2) x4 m8))) Q) ∧ (¬ (¬ v1 = 0) → (((lg_cmp (x4.1) (v5.toInt64)) = 0 → Wp X (d + 1) 322 (2999, ([some (vs 0 0), some (vp 0 0), some (vp 31 0), some (vp 43 0), some (vp 44 0), some (vi l5), some (vi v1), some (vi v5), o8], ([], Gu (u.1 + u3.1, u.2 + u3.2) x4 m8))) Q) ∧ (¬ ((lg_cmp (x4.1) (v5.toInt64)) = 0) → Q (.inl (some (vi 0)), Gu (u.1 + u3.1, u.2 + u3.2) x4 m8)))))) ∧ (¬ (v7 = v1) → Q (.inl (some (vi 0)), Gu (u.1 + u3.1, u.2 + u3.2) x4 m8))))))))) : Wp X (d + 1) 322 (868, ([some (vs 0 0), some (vp 0 0), some (vp 31 0), some (vp 43 0), some (vp 44 0), some (vi l5), o6, o7, o8], ([], Gu u x m))) Q := by
  obtain ⟨hg1_0, h⟩ := h
  refine wp_run 7 (inb (l5 + 1) X.1 && true) (876, ([some (vs 0 0), some (vp 0 0), some (vp 31 0), some (vp 43 0), some (vp 44 0), some (vi l5), o6, o7, o8], ([vp 43 0, vi (X.2 (l5 + 1).toNatClampNeg), vp 0 0], Gu u x m))) rfl (and_t hg1_0 rfl) ?_
  refine wp_call 287 [vp 0 0, vi (X.2 (l5 + 1).toNatClampNeg), vp 43 0] (879, ([some (vs 0 0), some (vp 0 0), some (vp 31 0), some (vp 43 0), some (vp 44 0), some (vi l5), o6, o7, o8], ([], Gu u x m))) rfl rfl (Cl.mono h (Nat.le_refl _) ?_)
  rintro r ⟨v1, m2, u3, x4, rfl, h⟩
  · show Wp X (d + 1) 322 (879, ([some (vs 0 0), some (vp 0 0), some (vp 31 0), some (vp 43 0), some (vp 44 0), some (vi l5), o6, o7, o8], ([vi v1], Gu (u.1 + u3.1, u.2 + u3.2) x4 m2))) Q
    obtain ⟨hg2_0, h⟩ := h
    refine wp_run 7 (inb (l5 + 1) X.1 && true) (888, ([some (vs 0 0), some (vp 0 0), some (vp 31 0), some (vp 43 0), some (vp 44 0), some (vi l5), some (vi v1), o7, o8], ([vi (X.2 (l5 + 1).toNatClampNeg), vp 31 0], Gu (u.1 + u3.1, u.2 + u3.2) x4 m2))) rfl (and_t hg2_0 rfl) ?_
    refine wp_call 198 [vp 31 0, vi (X.2 (l5 + 1).toNatClampNeg)] (891, ([some (vs 0 0), some (vp 0 0), some (vp 31 0), some (vp 43 0), some (vp 44 0), some (vi l5), some (vi v1), o7, o8], ([], Gu (u.1 + u3.1, u.2 + u3.2) x4 m2))) rfl rfl (Cl.mono h (Nat.le_refl _) ?_)
    rintro r ⟨v5, m6, rfl, h⟩
    · show Wp X (d + 1) 322 (891, ([some (vs 0 0), some (vp 0 0), some (vp 31 0), some (vp 43 0), some (vp 44 0), some (vi l5), some (vi v1), o7, o8], ([vi v5], Gu (u.1 + u3.1, u.2 + u3.2) x4 m6))) Q
      refine wp_run 2 true (894, ([some (vs 0 0), some (vp 0 0), some (vp 31 0), some (vp 43 0), some (vp 44 0), some (vi l5), some (vi v1), some (vi v5), o8], ([vp 31 0], Gu (u.1 + u3.1, u.2 + u3.2) x4 m6))) rfl rfl ?_
      refine wp_call 146 [vp 31 0] (897, ([some (vs 0 0), some (vp 0 0), some (vp 31 0), some (vp 43 0), some (vp 44 0), some (vi l5), some (vi v1), some (vi v5), o8], ([], Gu (u.1 + u3.1, u.2 + u3.2) x4 m6))) rfl rfl (Cl.mono h (Nat.le_refl _) ?_)
      rintro r ⟨v7, m8, rfl, h⟩
      · show Wp X (d + 1) 322 (897, ([some (vs 0 0), some (vp 0 0), some (vp 31 0), some (vp 43 0), some (vp 44 0), some (vi l5), some (vi v1), some (vi v5), o8], ([vi v7], Gu (u.1 + u3.1, u.2 + u3.2) x4 m8))) Q
        refine wp_run 2 true ((bif decide (v7 = v1) then 904 else 902), ([some (vs 0 0), some (vp 0 0), some (vp 31 0), some (vp 43 0), some (vp 44 0), some (vi l5), some (vi v1), some (vi v5), o8], ([], Gu (u.1 + u3.1, u.2 + u3.2) x4 m8))) rfl rfl ?_
        refine wp_if (v7 = v1) (fun c9 => ?_) (fun c9 => ?_)
        · have h := h.1 c9
          refine wp_run 2 true ((bif decide (¬ v1 = 0) then 921 else 909), ([some (vs 0 0), some (vp 0 0), some (vp 31 0), some (vp 43 0), some (vp 44 0), some (vi l5), some (vi v1), some (vi v5), o8], ([], Gu (u.1 + u3.1, u.2 + u3.2) x4 m8))) rfl rfl ?_
          refine wp_if (¬ v1 = 0) (fun c10 => ?_) (fun c10 => ?_)
          · have h := h.1 c10
            refine wp_run 1 true (2999, ([some (vs 0 0), some (vp 0 0), some (vp 31 0), some (vp 43 0), some (vp 44 0), some (vi l5), some (vi v1), some (vi v5), o8], ([], Gu (u.1 + u3.1, u.2 + u3.2) x4 m8))) rfl rfl ?_
            exact h
          · have h := h.2 c10
            refine wp_run 7 true ((bif decide ((lg_cmp (x4.1) (v5.toInt64)) = 0) then 921 else 919), ([some (vs 0 0), some (vp 0 0), some (vp 31 0), some (vp 43 0), some (vp 44 0), some (vi l5), some (vi v1), some (vi v5), o8], ([], Gu (u.1 + u3.1, u.2 + u3.2) x4 m8))) rfl rfl ?_
            refine wp_if ((lg_cmp (x4.1) (v5.toInt64)) = 0) (fun c11 => ?_) (fun c11 => ?_)
            · have h := h.1 c11
              refine wp_run 1 true (2999, ([some (vs 0 0), some (vp 0 0), some (vp 31 0), some (vp 43 0), some (vp 44 0), some (vi l5), some (vi v1), some (vi v5), o8], ([], Gu (u.1 + u3.1, u.2 + u3.2) x4 m8))) rfl rfl ?_
              exact h
            · have h := h.2 c11
              refine wp_run 1 true (920, ([some (vs 0 0), some (vp 0 0), some (vp 31 0), some (vp 43 0), some (vp 44 0), some (vi l5), some (vi v1), some (vi v5), o8], ([vi 0], Gu (u.1 + u3.1, u.2 + u3.2) x4 m8))) rfl rfl ?_
              exact wp_ret rfl h
        · have h := h.2 c9
          refine wp_run 1 true (903, ([some (vs 0 0), some (vp 0 0), some (vp 31 0), some (vp 43 0), some (vp 44 0), some (vi l5), some (vi v1), some (vi v5), o8], ([vi 0], Gu (u.1 + u3.1, u.2 + u3.2) x4 m8))) rfl rfl ?_
          exact wp_ret rfl h
set_option maxRecDepth 100000 in
set_option maxHeartbeats 4000000 in
theorem vl_law_924 {X : MX} {d : Nat} {x : Int64 × UInt64} {m : MI} {Q : MRes → Prop} {u : Nat × Nat} {l5 : Int32} {o6 : Option MV} {o7 : Option MV} {o8 : Option MV} (h : (inb (l5 + 1) X.1 = true ∧ Cl X d 288 [vp 0 0, vi (X.2 (l5 + 1).toNatClampNeg), vp 43 0] (Gu u x m) (fun r => ∃ (v1 : Int32) (m2 : MI) (u3 : Nat × Nat) (x4 : Int64 × UInt64), r = (.inl (some (vi v1)), Gu u3 x4 m2) ∧ (inb (l5 + 1) X.1 = true ∧ Cl X d 200 [vp 31 0, vi (X.2 (l5 + 1).toNatClampNeg)] (Gu (u.1 + u3.1, u.2 + u3.2) x4 m2) (fun r => ∃ (v5 : Int32) (m6 : MI), r = (.inl (some (vi v5)), G x4 m6) ∧ Cl X d 146 [vp 31 0] (Gu (u.1 + u3.1, u.2 + u3.2) x4 m6) (fun r => ∃ (v7 : Int32) (m8 : MI), r = (.inl (some (vi v7)), G x4 m8) ∧ ((v7 = v1 → ((¬ v1 = 0 → Wp X (d + 1) 322 (2999, ([some (vs 0 0), some (vp 0 0), some (vp 31 0), some (vp 43 0), some (vp 44 0), some (vi l5), some (vi v1), some (vi v5), o8], ([], Gu (u.1 + u3.1, u.2 + u3.2) x4 m8))) Q) ∧ (¬ (¬ v1 = 0) → (((lg_cmp (x4.1) (v5.toInt64)) = 0 → Wp X (d + 1) 322 (2999, ([some (vs 0 0), some (vp 0 0), some (vp 31 0), some (vp 43 0), some (vp 44 0), some (vi l5), some (vi v1), some (vi v5), o8], ([], Gu (u.1 + u3.1, u.2 + u3.2) x4 m8))) Q) ∧ (¬ ((lg_cmp (x4.1) (v5.toInt64)) = 0) → Q (.inl (some (vi 0)), Gu (u.1 + u3.1, u.2 + u3.2) x4 m8)))))) ∧ (¬ (v7 = v1) → Q (.inl (some (vi 0)), Gu (u.1 + u3.1, u.2 + u3.2) x4 m8))))))))) : Wp X (d + 1) 322 (924, ([some (vs 0 0), some (vp 0 0), some (vp 31 0), some (vp 43 0), some (vp 44 0), some (vi l5), o6, o7, o8], ([], Gu u x m))) Q := by
  obtain ⟨hg1_0, h⟩ := h
  refine wp_run 7 (inb (l5 + 1) X.1 && true) (932, ([some (vs 0 0), some (vp 0 0), some (vp 31 0), some (vp 43 0), some (vp 44 0), some (vi l5), o6, o7, o8], ([vp 43 0, vi (X.2 (l5 + 1).toNatClampNeg), vp 0 0], Gu u x m))) rfl (and_t hg1_0 rfl) ?_
  refine wp_call 288 [vp 0 0, vi (X.2 (l5 + 1).toNatClampNeg), vp 43 0] (935, ([some (vs 0 0), some (vp 0 0), some (vp 31 0), some (vp 43 0), some (vp 44 0), some (vi l5), o6, o7, o8], ([], Gu u x m))) rfl rfl (Cl.mono h (Nat.le_refl _) ?_)
  rintro r ⟨v1, m2, u3, x4, rfl, h⟩
  · show Wp X (d + 1) 322 (935, ([some (vs 0 0), some (vp 0 0), some (vp 31 0), some (vp 43 0), some (vp 44 0), some (vi l5), o6, o7, o8], ([vi v1], Gu (u.1 + u3.1, u.2 + u3.2) x4 m2))) Q
    obtain ⟨hg2_0, h⟩ := h
    refine wp_run 7 (inb (l5 + 1) X.1 && true) (944, ([some (vs 0 0), some (vp 0 0), some (vp 31 0), some (vp 43 0), some (vp 44 0), some (vi l5), some (vi v1), o7, o8], ([vi (X.2 (l5 + 1).toNatClampNeg), vp 31 0], Gu (u.1 + u3.1, u.2 + u3.2) x4 m2))) rfl (and_t hg2_0 rfl) ?_
    refine wp_call 200 [vp 31 0, vi (X.2 (l5 + 1).toNatClampNeg)] (947, ([some (vs 0 0), some (vp 0 0), some (vp 31 0), some (vp 43 0), some (vp 44 0), some (vi l5), some (vi v1), o7, o8], ([], Gu (u.1 + u3.1, u.2 + u3.2) x4 m2))) rfl rfl (Cl.mono h (Nat.le_refl _) ?_)
    rintro r ⟨v5, m6, rfl, h⟩
    · show Wp X (d + 1) 322 (947, ([some (vs 0 0), some (vp 0 0), some (vp 31 0), some (vp 43 0), some (vp 44 0), some (vi l5), some (vi v1), o7, o8], ([vi v5], Gu (u.1 + u3.1, u.2 + u3.2) x4 m6))) Q
      refine wp_run 2 true (950, ([some (vs 0 0), some (vp 0 0), some (vp 31 0), some (vp 43 0), some (vp 44 0), some (vi l5), some (vi v1), some (vi v5), o8], ([vp 31 0], Gu (u.1 + u3.1, u.2 + u3.2) x4 m6))) rfl rfl ?_
      refine wp_call 146 [vp 31 0] (953, ([some (vs 0 0), some (vp 0 0), some (vp 31 0), some (vp 43 0), some (vp 44 0), some (vi l5), some (vi v1), some (vi v5), o8], ([], Gu (u.1 + u3.1, u.2 + u3.2) x4 m6))) rfl rfl (Cl.mono h (Nat.le_refl _) ?_)
      rintro r ⟨v7, m8, rfl, h⟩
      · show Wp X (d + 1) 322 (953, ([some (vs 0 0), some (vp 0 0), some (vp 31 0), some (vp 43 0), some (vp 44 0), some (vi l5), some (vi v1), some (vi v5), o8], ([vi v7], Gu (u.1 + u3.1, u.2 + u3.2) x4 m8))) Q
        refine wp_run 2 true ((bif decide (v7 = v1) then 960 else 958), ([some (vs 0 0), some (vp 0 0), some (vp 31 0), some (vp 43 0), some (vp 44 0), some (vi l5), some (vi v1), some (vi v5), o8], ([], Gu (u.1 + u3.1, u.2 + u3.2) x4 m8))) rfl rfl ?_
        refine wp_if (v7 = v1) (fun c9 => ?_) (fun c9 => ?_)
        · have h := h.1 c9
          refine wp_run 2 true ((bif decide (¬ v1 = 0) then 977 else 965), ([some (vs 0 0), some (vp 0 0), some (vp 31 0), some (vp 43 0), some (vp 44 0), some (vi l5), some (vi v1), some (vi v5), o8], ([], Gu (u.1 + u3.1, u.2 + u3.2) x4 m8))) rfl rfl ?_
          refine wp_if (¬ v1 = 0) (fun c10 => ?_) (fun c10 => ?_)
          · have h := h.1 c10
            refine wp_run 1 true (2999, ([some (vs 0 0), some (vp 0 0), some (vp 31 0), some (vp 43 0), some (vp 44 0), some (vi l5), some (vi v1), some (vi v5), o8], ([], Gu (u.1 + u3.1, u.2 + u3.2) x4 m8))) rfl rfl ?_
            exact h
          · have h := h.2 c10
            refine wp_run 7 true ((bif decide ((lg_cmp (x4.1) (v5.toInt64)) = 0) then 977 else 975), ([some (vs 0 0), some (vp 0 0), some (vp 31 0), some (vp 43 0), some (vp 44 0), some (vi l5), some (vi v1), some (vi v5), o8], ([], Gu (u.1 + u3.1, u.2 + u3.2) x4 m8))) rfl rfl ?_
            refine wp_if ((lg_cmp (x4.1) (v5.toInt64)) = 0) (fun c11 => ?_) (fun c11 => ?_)
            · have h := h.1 c11
              refine wp_run 1 true (2999, ([some (vs 0 0), some (vp 0 0), some (vp 31 0), some (vp 43 0), some (vp 44 0), some (vi l5), some (vi v1), some (vi v5), o8], ([], Gu (u.1 + u3.1, u.2 + u3.2) x4 m8))) rfl rfl ?_
              exact h
            · have h := h.2 c11
              refine wp_run 1 true (976, ([some (vs 0 0), some (vp 0 0), some (vp 31 0), some (vp 43 0), some (vp 44 0), some (vi l5), some (vi v1), some (vi v5), o8], ([vi 0], Gu (u.1 + u3.1, u.2 + u3.2) x4 m8))) rfl rfl ?_
              exact wp_ret rfl h
        · have h := h.2 c9
          refine wp_run 1 true (959, ([some (vs 0 0), some (vp 0 0), some (vp 31 0), some (vp 43 0), some (vp 44 0), some (vi l5), some (vi v1), some (vi v5), o8], ([vi 0], Gu (u.1 + u3.1, u.2 + u3.2) x4 m8))) rfl rfl ?_
          exact wp_ret rfl h
set_option maxRecDepth 100000 in
set_option maxHeartbeats 4000000 in
theorem vl_law_980 {X : MX} {d : Nat} {x : Int64 × UInt64} {m : MI} {Q : MRes → Prop} {u : Nat × Nat} {l5 : Int32} {o6 : Option MV} {o7 : Option MV} {o8 : Option MV} (h : (inb (l5 + 1) X.1 = true ∧ Cl X d 289 [vp 0 0, vi (X.2 (l5 + 1).toNatClampNeg), vp 43 0] (Gu u x m) (fun r => ∃ (v1 : Int32) (m2 : MI) (u3 : Nat × Nat) (x4 : Int64 × UInt64), r = (.inl (some (vi v1)), Gu u3 x4 m2) ∧ (inb (l5 + 1) X.1 = true ∧ Cl X d 201 [vp 31 0, vi (X.2 (l5 + 1).toNatClampNeg)] (Gu (u.1 + u3.1, u.2 + u3.2) x4 m2) (fun r => ∃ (v5 : Int32) (m6 : MI), r = (.inl (some (vi v5)), G x4 m6) ∧ Cl X d 146 [vp 31 0] (Gu (u.1 + u3.1, u.2 + u3.2) x4 m6) (fun r => ∃ (v7 : Int32) (m8 : MI), r = (.inl (some (vi v7)), G x4 m8) ∧ ((v7 = v1 → ((¬ v1 = 0 → Wp X (d + 1) 322 (2999, ([some (vs 0 0), some (vp 0 0), some (vp 31 0), some (vp 43 0), some (vp 44 0), some (vi l5), some (vi v1), some (vi v5), o8], ([], Gu (u.1 + u3.1, u.2 + u3.2) x4 m8))) Q) ∧ (¬ (¬ v1 = 0) → (((lg_cmp (x4.1) (v5.toInt64)) = 0 → Wp X (d + 1) 322 (2999, ([some (vs 0 0), some (vp 0 0), some (vp 31 0), some (vp 43 0), some (vp 44 0), some (vi l5), some (vi v1), some (vi v5), o8], ([], Gu (u.1 + u3.1, u.2 + u3.2) x4 m8))) Q) ∧ (¬ ((lg_cmp (x4.1) (v5.toInt64)) = 0) → Q (.inl (some (vi 0)), Gu (u.1 + u3.1, u.2 + u3.2) x4 m8)))))) ∧ (¬ (v7 = v1) → Q (.inl (some (vi 0)), Gu (u.1 + u3.1, u.2 + u3.2) x4 m8))))))))) : Wp X (d + 1) 322 (980, ([some (vs 0 0), some (vp 0 0), some (vp 31 0), some (vp 43 0), some (vp 44 0), some (vi l5), o6, o7, o8], ([], Gu u x m))) Q := by
  obtain ⟨hg1_0, h⟩ := h
  refine wp_run 7 (inb (l5 + 1) X.1 && true) (988, ([some (vs 0 0), some (vp 0 0), some (vp 31 0), some (vp 43 0), some (vp 44 0), some (vi l5), o6, o7, o8], ([vp 43 0, vi (X.2 (l5 + 1).toNatClampNeg), vp 0 0], Gu u x m))) rfl (and_t hg1_0 rfl) ?_
  refine wp_call 289 [vp 0 0, vi (X.2 (l5 + 1).toNatClampNeg), vp 43 0] (991, ([some (vs 0 0), some (vp 0 0), some (vp 31 0), some (vp 43 0), some (vp 44 0), some (vi l5), o6, o7, o8], ([], Gu u x m))) rfl rfl (Cl.mono h (Nat.le_refl _) ?_)
  rintro r ⟨v1, m2, u3, x4, rfl, h⟩
  · show Wp X (d + 1) 322 (991, ([some (vs 0 0), some (vp 0 0), some (vp 31 0), some (vp 43 0), some (vp 44 0), some (vi l5), o6, o7, o8], ([vi v1], Gu (u.1 + u3.1, u.2 + u3.2) x4 m2))) Q
    obtain ⟨hg2_0, h⟩ := h
    refine wp_run 7 (inb (l5 + 1) X.1 && true) (1000, ([some (vs 0 0), some (vp 0 0), some (vp 31 0), some (vp 43 0), some (vp 44 0), some (vi l5), some (vi v1), o7, o8], ([vi (X.2 (l5 + 1).toNatClampNeg), vp 31 0], Gu (u.1 + u3.1, u.2 + u3.2) x4 m2))) rfl (and_t hg2_0 rfl) ?_
    refine wp_call 201 [vp 31 0, vi (X.2 (l5 + 1).toNatClampNeg)] (1003, ([some (vs 0 0), some (vp 0 0), some (vp 31 0), some (vp 43 0), some (vp 44 0), some (vi l5), some (vi v1), o7, o8], ([], Gu (u.1 + u3.1, u.2 + u3.2) x4 m2))) rfl rfl (Cl.mono h (Nat.le_refl _) ?_)
    rintro r ⟨v5, m6, rfl, h⟩
    · show Wp X (d + 1) 322 (1003, ([some (vs 0 0), some (vp 0 0), some (vp 31 0), some (vp 43 0), some (vp 44 0), some (vi l5), some (vi v1), o7, o8], ([vi v5], Gu (u.1 + u3.1, u.2 + u3.2) x4 m6))) Q
      refine wp_run 2 true (1006, ([some (vs 0 0), some (vp 0 0), some (vp 31 0), some (vp 43 0), some (vp 44 0), some (vi l5), some (vi v1), some (vi v5), o8], ([vp 31 0], Gu (u.1 + u3.1, u.2 + u3.2) x4 m6))) rfl rfl ?_
      refine wp_call 146 [vp 31 0] (1009, ([some (vs 0 0), some (vp 0 0), some (vp 31 0), some (vp 43 0), some (vp 44 0), some (vi l5), some (vi v1), some (vi v5), o8], ([], Gu (u.1 + u3.1, u.2 + u3.2) x4 m6))) rfl rfl (Cl.mono h (Nat.le_refl _) ?_)
      rintro r ⟨v7, m8, rfl, h⟩
      · show Wp X (d + 1) 322 (1009, ([some (vs 0 0), some (vp 0 0), some (vp 31 0), some (vp 43 0), some (vp 44 0), some (vi l5), some (vi v1), some (vi v5), o8], ([vi v7], Gu (u.1 + u3.1, u.2 + u3.2) x4 m8))) Q
        refine wp_run 2 true ((bif decide (v7 = v1) then 1016 else 1014), ([some (vs 0 0), some (vp 0 0), some (vp 31 0), some (vp 43 0), some (vp 44 0), some (vi l5), some (vi v1), some (vi v5), o8], ([], Gu (u.1 + u3.1, u.2 + u3.2) x4 m8))) rfl rfl ?_
        refine wp_if (v7 = v1) (fun c9 => ?_) (fun c9 => ?_)
        · have h := h.1 c9
          refine wp_run 2 true ((bif decide (¬ v1 = 0) then 1033 else 1021), ([some (vs 0 0), some (vp 0 0), some (vp 31 0), some (vp 43 0), some (vp 44 0), some (vi l5), some (vi v1), some (vi v5), o8], ([], Gu (u.1 + u3.1, u.2 + u3.2) x4 m8))) rfl rfl ?_
          refine wp_if (¬ v1 = 0) (fun c10 => ?_) (fun c10 => ?_)
          · have h := h.1 c10
            refine wp_run 1 true (2999, ([some (vs 0 0), some (vp 0 0), some (vp 31 0), some (vp 43 0), some (vp 44 0), some (vi l5), some (vi v1), some (vi v5), o8], ([], Gu (u.1 + u3.1, u.2 + u3.2) x4 m8))) rfl rfl ?_
            exact h
          · have h := h.2 c10
            refine wp_run 7 true ((bif decide ((lg_cmp (x4.1) (v5.toInt64)) = 0) then 1033 else 1031), ([some (vs 0 0), some (vp 0 0), some (vp 31 0), some (vp 43 0), some (vp 44 0), some (vi l5), some (vi v1), some (vi v5), o8], ([], Gu (u.1 + u3.1, u.2 + u3.2) x4 m8))) rfl rfl ?_
            refine wp_if ((lg_cmp (x4.1) (v5.toInt64)) = 0) (fun c11 => ?_) (fun c11 => ?_)
            · have h := h.1 c11
              refine wp_run 1 true (2999, ([some (vs 0 0), some (vp 0 0), some (vp 31 0), some (vp 43 0), some (vp 44 0), some (vi l5), some (vi v1), some (vi v5), o8], ([], Gu (u.1 + u3.1, u.2 + u3.2) x4 m8))) rfl rfl ?_
              exact h
            · have h := h.2 c11
              refine wp_run 1 true (1032, ([some (vs 0 0), some (vp 0 0), some (vp 31 0), some (vp 43 0), some (vp 44 0), some (vi l5), some (vi v1), some (vi v5), o8], ([vi 0], Gu (u.1 + u3.1, u.2 + u3.2) x4 m8))) rfl rfl ?_
              exact wp_ret rfl h
        · have h := h.2 c9
          refine wp_run 1 true (1015, ([some (vs 0 0), some (vp 0 0), some (vp 31 0), some (vp 43 0), some (vp 44 0), some (vi l5), some (vi v1), some (vi v5), o8], ([vi 0], Gu (u.1 + u3.1, u.2 + u3.2) x4 m8))) rfl rfl ?_
          exact wp_ret rfl h
set_option maxRecDepth 100000 in
set_option maxHeartbeats 4000000 in
theorem vl_law_1036 {X : MX} {d : Nat} {x : Int64 × UInt64} {m : MI} {Q : MRes → Prop} {u : Nat × Nat} {l5 : Int32} {o6 : Option MV} {o7 : Option MV} {o8 : Option MV} (h : (inb (l5 + 1) X.1 = true ∧ Cl X d 290 [vp 0 0, vi (X.2 (l5 + 1).toNatClampNeg), vp 43 0] (Gu u x m) (fun r => ∃ (v1 : Int32) (m2 : MI) (u3 : Nat × Nat) (x4 : Int64 × UInt64), r = (.inl (some (vi v1)), Gu u3 x4 m2) ∧ (inb (l5 + 1) X.1 = true ∧ Cl X d 202 [vp 31 0, vi (X.2 (l5 + 1).toNatClampNeg)] (Gu (u.1 + u3.1, u.2 + u3.2) x4 m2) (fun r => ∃ (v5 : Int32) (m6 : MI), r = (.inl (some (vi v5)), G x4 m6) ∧ Cl X d 146 [vp 31 0] (Gu (u.1 + u3.1, u.2 + u3.2) x4 m6) (fun r => ∃ (v7 : Int32) (m8 : MI), r = (.inl (some (vi v7)), G x4 m8) ∧ ((v7 = v1 → ((¬ v1 = 0 → Wp X (d + 1) 322 (2999, ([some (vs 0 0), some (vp 0 0), some (vp 31 0), some (vp 43 0), some (vp 44 0), some (vi l5), some (vi v1), some (vi v5), o8], ([], Gu (u.1 + u3.1, u.2 + u3.2) x4 m8))) Q) ∧ (¬ (¬ v1 = 0) → (((lg_cmp (x4.1) (v5.toInt64)) = 0 → Wp X (d + 1) 322 (2999, ([some (vs 0 0), some (vp 0 0), some (vp 31 0), some (vp 43 0), some (vp 44 0), some (vi l5), some (vi v1), some (vi v5), o8], ([], Gu (u.1 + u3.1, u.2 + u3.2) x4 m8))) Q) ∧ (¬ ((lg_cmp (x4.1) (v5.toInt64)) = 0) → Q (.inl (some (vi 0)), Gu (u.1 + u3.1, u.2 + u3.2) x4 m8)))))) ∧ (¬ (v7 = v1) → Q (.inl (some (vi 0)), Gu (u.1 + u3.1, u.2 + u3.2) x4 m8))))))))) : Wp X (d + 1) 322 (1036, ([some (vs 0 0), some (vp 0 0), some (vp 31 0), some (vp 43 0), some (vp 44 0), some (vi l5), o6, o7, o8], ([], Gu u x m))) Q := by
  obtain ⟨hg1_0, h⟩ := h
  refine wp_run 7 (inb (l5 + 1) X.1 && true) (1044, ([some (vs 0 0), some (vp 0 0), some (vp 31 0), some (vp 43 0), some (vp 44 0), some (vi l5), o6, o7, o8], ([vp 43 0, vi (X.2 (l5 + 1).toNatClampNeg), vp 0 0], Gu u x m))) rfl (and_t hg1_0 rfl) ?_
  refine wp_call 290 [vp 0 0, vi (X.2 (l5 + 1).toNatClampNeg), vp 43 0] (1047, ([some (vs 0 0), some (vp 0 0), some (vp 31 0), some (vp 43 0), some (vp 44 0), some (vi l5), o6, o7, o8], ([], Gu u x m))) rfl rfl (Cl.mono h (Nat.le_refl _) ?_)
  rintro r ⟨v1, m2, u3, x4, rfl, h⟩
  · show Wp X (d + 1) 322 (1047, ([some (vs 0 0), some (vp 0 0), some (vp 31 0), some (vp 43 0), some (vp 44 0), some (vi l5), o6, o7, o8], ([vi v1], Gu (u.1 + u3.1, u.2 + u3.2) x4 m2))) Q
    obtain ⟨hg2_0, h⟩ := h
    refine wp_run 7 (inb (l5 + 1) X.1 && true) (1056, ([some (vs 0 0), some (vp 0 0), some (vp 31 0), some (vp 43 0), some (vp 44 0), some (vi l5), some (vi v1), o7, o8], ([vi (X.2 (l5 + 1).toNatClampNeg), vp 31 0], Gu (u.1 + u3.1, u.2 + u3.2) x4 m2))) rfl (and_t hg2_0 rfl) ?_
    refine wp_call 202 [vp 31 0, vi (X.2 (l5 + 1).toNatClampNeg)] (1059, ([some (vs 0 0), some (vp 0 0), some (vp 31 0), some (vp 43 0), some (vp 44 0), some (vi l5), some (vi v1), o7, o8], ([], Gu (u.1 + u3.1, u.2 + u3.2) x4 m2))) rfl rfl (Cl.mono h (Nat.le_refl _) ?_)
    rintro r ⟨v5, m6, rfl, h⟩
    · show Wp X (d + 1) 322 (1059, ([some (vs 0 0), some (vp 0 0), some (vp 31 0), some (vp 43 0), some (vp 44 0), some (vi l5), some (vi v1), o7, o8], ([vi v5], Gu (u.1 + u3.1, u.2 + u3.2) x4 m6))) Q
      refine wp_run 2 true (1062, ([some (vs 0 0), some (vp 0 0), some (vp 31 0), some (vp 43 0), some (vp 44 0), some (vi l5), some (vi v1), some (vi v5), o8], ([vp 31 0], Gu (u.1 + u3.1, u.2 + u3.2) x4 m6))) rfl rfl ?_
      refine wp_call 146 [vp 31 0] (1065, ([some (vs 0 0), some (vp 0 0), some (vp 31 0), some (vp 43 0), some (vp 44 0), some (vi l5), some (vi v1), some (vi v5), o8], ([], Gu (u.1 + u3.1, u.2 + u3.2) x4 m6))) rfl rfl (Cl.mono h (Nat.le_refl _) ?_)
      rintro r ⟨v7, m8, rfl, h⟩
      · show Wp X (d + 1) 322 (1065, ([some (vs 0 0), some (vp 0 0), some (vp 31 0), some (vp 43 0), some (vp 44 0), some (vi l5), some (vi v1), some (vi v5), o8], ([vi v7], Gu (u.1 + u3.1, u.2 + u3.2) x4 m8))) Q
        refine wp_run 2 true ((bif decide (v7 = v1) then 1072 else 1070), ([some (vs 0 0), some (vp 0 0), some (vp 31 0), some (vp 43 0), some (vp 44 0), some (vi l5), some (vi v1), some (vi v5), o8], ([], Gu (u.1 + u3.1, u.2 + u3.2) x4 m8))) rfl rfl ?_
        refine wp_if (v7 = v1) (fun c9 => ?_) (fun c9 => ?_)
        · have h := h.1 c9
          refine wp_run 2 true ((bif decide (¬ v1 = 0) then 1089 else 1077), ([some (vs 0 0), some (vp 0 0), some (vp 31 0), some (vp 43 0), some (vp 44 0), some (vi l5), some (vi v1), some (vi v5), o8], ([], Gu (u.1 + u3.1, u.2 + u3.2) x4 m8))) rfl rfl ?_
          refine wp_if (¬ v1 = 0) (fun c10 => ?_) (fun c10 => ?_)
          · have h := h.1 c10
            refine wp_run 1 true (2999, ([some (vs 0 0), some (vp 0 0), some (vp 31 0), some (vp 43 0), some (vp 44 0), some (vi l5), some (vi v1), some (vi v5), o8], ([], Gu (u.1 + u3.1, u.2 + u3.2) x4 m8))) rfl rfl ?_
            exact h
          · have h := h.2 c10
            refine wp_run 7 true ((bif decide ((lg_cmp (x4.1) (v5.toInt64)) = 0) then 1089 else 1087), ([some (vs 0 0), some (vp 0 0), some (vp 31 0), some (vp 43 0), some (vp 44 0), some (vi l5), some (vi v1), some (vi v5), o8], ([], Gu (u.1 + u3.1, u.2 + u3.2) x4 m8))) rfl rfl ?_
            refine wp_if ((lg_cmp (x4.1) (v5.toInt64)) = 0) (fun c11 => ?_) (fun c11 => ?_)
            · have h := h.1 c11
              refine wp_run 1 true (2999, ([some (vs 0 0), some (vp 0 0), some (vp 31 0), some (vp 43 0), some (vp 44 0), some (vi l5), some (vi v1), some (vi v5), o8], ([], Gu (u.1 + u3.1, u.2 + u3.2) x4 m8))) rfl rfl ?_
              exact h
            · have h := h.2 c11
              refine wp_run 1 true (1088, ([some (vs 0 0), some (vp 0 0), some (vp 31 0), some (vp 43 0), some (vp 44 0), some (vi l5), some (vi v1), some (vi v5), o8], ([vi 0], Gu (u.1 + u3.1, u.2 + u3.2) x4 m8))) rfl rfl ?_
              exact wp_ret rfl h
        · have h := h.2 c9
          refine wp_run 1 true (1071, ([some (vs 0 0), some (vp 0 0), some (vp 31 0), some (vp 43 0), some (vp 44 0), some (vi l5), some (vi v1), some (vi v5), o8], ([vi 0], Gu (u.1 + u3.1, u.2 + u3.2) x4 m8))) rfl rfl ?_
          exact wp_ret rfl h
set_option maxRecDepth 100000 in
set_option maxHeartbeats 4000000 in
theorem vl_law_1092 {X : MX} {d : Nat} {x : Int64 × UInt64} {m : MI} {Q : MRes → Prop} {u : Nat × Nat} {l5 : Int32} {o6 : Option MV} {o7 : Option MV} {o8 : Option MV} (h : (inb (l5 + 1) X.1 = true ∧ Cl X d 291 [vp 0 0, vi (X.2 (l5 + 1).toNatClampNeg), vp 43 0] (Gu u x m) (fun r => ∃ (v1 : Int32) (m2 : MI) (u3 : Nat × Nat) (x4 : Int64 × UInt64), r = (.inl (some (vi v1)), Gu u3 x4 m2) ∧ (inb (l5 + 1) X.1 = true ∧ Cl X d 203 [vp 31 0, vi (X.2 (l5 + 1).toNatClampNeg)] (Gu (u.1 + u3.1, u.2 + u3.2) x4 m2) (fun r => ∃ (v5 : Int32) (m6 : MI), r = (.inl (some (vi v5)), G x4 m6) ∧ Cl X d 146 [vp 31 0] (Gu (u.1 + u3.1, u.2 + u3.2) x4 m6) (fun r => ∃ (v7 : Int32) (m8 : MI), r = (.inl (some (vi v7)), G x4 m8) ∧ ((v7 = v1 → ((¬ v1 = 0 → Wp X (d + 1) 322 (2999, ([some (vs 0 0), some (vp 0 0), some (vp 31 0), some (vp 43 0), some (vp 44 0), some (vi l5), some (vi v1), some (vi v5), o8], ([], Gu (u.1 + u3.1, u.2 + u3.2) x4 m8))) Q) ∧ (¬ (¬ v1 = 0) → (((lg_cmp (x4.1) (v5.toInt64)) = 0 → Wp X (d + 1) 322 (2999, ([some (vs 0 0), some (vp 0 0), some (vp 31 0), some (vp 43 0), some (vp 44 0), some (vi l5), some (vi v1), some (vi v5), o8], ([], Gu (u.1 + u3.1, u.2 + u3.2) x4 m8))) Q) ∧ (¬ ((lg_cmp (x4.1) (v5.toInt64)) = 0) → Q (.inl (some (vi 0)), Gu (u.1 + u3.1, u.2 + u3.2) x4 m8)))))) ∧ (¬ (v7 = v1) → Q (.inl (some (vi 0)), Gu (u.1 + u3.1, u.2 + u3.2) x4 m8))))))))) : Wp X (d + 1) 322 (1092, ([some (vs 0 0), some (vp 0 0), some (vp 31 0), some (vp 43 0), some (vp 44 0), some (vi l5), o6, o7, o8], ([], Gu u x m))) Q := by
  obtain ⟨hg1_0, h⟩ := h
  refine wp_run 7 (inb (l5 + 1) X.1 && true) (1100, ([some (vs 0 0), some (vp 0 0), some (vp 31 0), some (vp 43 0), some (vp 44 0), some (vi l5), o6, o7, o8], ([vp 43 0, vi (X.2 (l5 + 1).toNatClampNeg), vp 0 0], Gu u x m))) rfl (and_t hg1_0 rfl) ?_
  refine wp_call 291 [vp 0 0, vi (X.2 (l5 + 1).toNatClampNeg), vp 43 0] (1103, ([some (vs 0 0), some (vp 0 0), some (vp 31 0), some (vp 43 0), some (vp 44 0), some (vi l5), o6, o7, o8], ([], Gu u x m))) rfl rfl (Cl.mono h (Nat.le_refl _) ?_)
  rintro r ⟨v1, m2, u3, x4, rfl, h⟩
  · show Wp X (d + 1) 322 (1103, ([some (vs 0 0), some (vp 0 0), some (vp 31 0), some (vp 43 0), some (vp 44 0), some (vi l5), o6, o7, o8], ([vi v1], Gu (u.1 + u3.1, u.2 + u3.2) x4 m2))) Q
    obtain ⟨hg2_0, h⟩ := h
    refine wp_run 7 (inb (l5 + 1) X.1 && true) (1112, ([some (vs 0 0), some (vp 0 0), some (vp 31 0), some (vp 43 0), some (vp 44 0), some (vi l5), some (vi v1), o7, o8], ([vi (X.2 (l5 + 1).toNatClampNeg), vp 31 0], Gu (u.1 + u3.1, u.2 + u3.2) x4 m2))) rfl (and_t hg2_0 rfl) ?_
    refine wp_call 203 [vp 31 0, vi (X.2 (l5 + 1).toNatClampNeg)] (1115, ([some (vs 0 0), some (vp 0 0), some (vp 31 0), some (vp 43 0), some (vp 44 0), some (vi l5), some (vi v1), o7, o8], ([], Gu (u.1 + u3.1, u.2 + u3.2) x4 m2))) rfl rfl (Cl.mono h (Nat.le_refl _) ?_)
    rintro r ⟨v5, m6, rfl, h⟩
    · show Wp X (d + 1) 322 (1115, ([some (vs 0 0), some (vp 0 0), some (vp 31 0), some (vp 43 0), some (vp 44 0), some (vi l5), some (vi v1), o7, o8], ([vi v5], Gu (u.1 + u3.1, u.2 + u3.2) x4 m6))) Q
      refine wp_run 2 true (1118, ([some (vs 0 0), some (vp 0 0), some (vp 31 0), some (vp 43 0), some (vp 44 0), some (vi l5), some (vi v1), some (vi v5), o8], ([vp 31 0], Gu (u.1 + u3.1, u.2 + u3.2) x4 m6))) rfl rfl ?_
      refine wp_call 146 [vp 31 0] (1121, ([some (vs 0 0), some (vp 0 0), some (vp 31 0), some (vp 43 0), some (vp 44 0), some (vi l5), some (vi v1), some (vi v5), o8], ([], Gu (u.1 + u3.1, u.2 + u3.2) x4 m6))) rfl rfl (Cl.mono h (Nat.le_refl _) ?_)
      rintro r ⟨v7, m8, rfl, h⟩
      · show Wp X (d + 1) 322 (1121, ([some (vs 0 0), some (vp 0 0), some (vp 31 0), some (vp 43 0), some (vp 44 0), some (vi l5), some (vi v1), some (vi v5), o8], ([vi v7], Gu (u.1 + u3.1, u.2 + u3.2) x4 m8))) Q
        refine wp_run 2 true ((bif decide (v7 = v1) then 1128 else 1126), ([some (vs 0 0), some (vp 0 0), some (vp 31 0), some (vp 43 0), some (vp 44 0), some (vi l5), some (vi v1), some (vi v5), o8], ([], Gu (u.1 + u3.1, u.2 + u3.2) x4 m8))) rfl rfl ?_
        refine wp_if (v7 = v1) (fun c9 => ?_) (fun c9 => ?_)
        · have h := h.1 c9
          refine wp_run 2 true ((bif decide (¬ v1 = 0) then 1145 else 1133), ([some (vs 0 0), some (vp 0 0), some (vp 31 0), some (vp 43 0), some (vp 44 0), some (vi l5), some (vi v1), some (vi v5), o8], ([], Gu (u.1 + u3.1, u.2 + u3.2) x4 m8))) rfl rfl ?_
          refine wp_if (¬ v1 = 0) (fun c10 => ?_) (fun c10 => ?_)
          · have h := h.1 c10
            refine wp_run 1 true (2999, ([some (vs 0 0), some (vp 0 0), some (vp 31 0), some (vp 43 0), some (vp 44 0), some (vi l5), some (vi v1), some (vi v5), o8], ([], Gu (u.1 + u3.1, u.2 + u3.2) x4 m8))) rfl rfl ?_
            exact h
          · have h := h.2 c10
            refine wp_run 7 true ((bif decide ((lg_cmp (x4.1) (v5.toInt64)) = 0) then 1145 else 1143), ([some (vs 0 0), some (vp 0 0), some (vp 31 0), some (vp 43 0), some (vp 44 0), some (vi l5), some (vi v1), some (vi v5), o8], ([], Gu (u.1 + u3.1, u.2 + u3.2) x4 m8))) rfl rfl ?_
            refine wp_if ((lg_cmp (x4.1) (v5.toInt64)) = 0) (fun c11 => ?_) (fun c11 => ?_)
            · have h := h.1 c11
              refine wp_run 1 true (2999, ([some (vs 0 0), some (vp 0 0), some (vp 31 0), some (vp 43 0), some (vp 44 0), some (vi l5), some (vi v1), some (vi v5), o8], ([], Gu (u.1 + u3.1, u.2 + u3.2) x4 m8))) rfl rfl ?_
              exact h
            · have h := h.2 c11
              refine wp_run 1 true (1144, ([some (vs 0 0), some (vp 0 0), some (vp 31 0), some (vp 43 0), some (vp 44 0), some (vi l5), some (vi v1), some (vi v5), o8], ([vi 0], Gu (u.1 + u3.1, u.2 + u3.2) x4 m8))) rfl rfl ?_
              exact wp_ret rfl h
        · have h := h.2 c9
          refine wp_run 1 true (1127, ([some (vs 0 0), some (vp 0 0), some (vp 31 0), some (vp 43 0), some (vp 44 0), some (vi l5), some (vi v1), some (vi v5), o8], ([vi 0], Gu (u.1 + u3.1, u.2 + u3.2) x4 m8))) rfl rfl ?_
          exact wp_ret rfl h
set_option maxRecDepth 100000 in
set_option maxHeartbeats 4000000 in
theorem vl_law_1148 {X : MX} {d : Nat} {x : Int64 × UInt64} {m : MI} {Q : MRes → Prop} {u : Nat × Nat} {l5 : Int32} {o6 : Option MV} {o7 : Option MV} {o8 : Option MV} (h : (inb (l5 + 1) X.1 = true ∧ Cl X d 292 [vp 0 0, vi (X.2 (l5 + 1).toNatClampNeg), vp 43 0] (Gu u x m) (fun r => ∃ (v1 : Int32) (m2 : MI) (u3 : Nat × Nat) (x4 : Int64 × UInt64), r = (.inl (some (vi v1)), Gu u3 x4 m2) ∧ (inb (l5 + 1) X.1 = true ∧ Cl X d 204 [vp 31 0, vi (X.2 (l5 + 1).toNatClampNeg)] (Gu (u.1 + u3.1, u.2 + u3.2) x4 m2) (fun r => ∃ (v5 : Int32) (m6 : MI), r = (.inl (some (vi v5)), G x4 m6) ∧ Cl X d 146 [vp 31 0] (Gu (u.1 + u3.1, u.2 + u3.2) x4 m6) (fun r => ∃ (v7 : Int32) (m8 : MI), r = (.inl (some (vi v7)), G x4 m8) ∧ ((v7 = v1 → ((¬ v1 = 0 → Wp X (d + 1) 322 (2999, ([some (vs 0 0), some (vp 0 0), some (vp 31 0), some (vp 43 0), some (vp 44 0), some (vi l5), some (vi v1), some (vi v5), o8], ([], Gu (u.1 + u3.1, u.2 + u3.2) x4 m8))) Q) ∧ (¬ (¬ v1 = 0) → (((lg_cmp (x4.1) (v5.toInt64)) = 0 → Wp X (d + 1) 322 (2999, ([some (vs 0 0), some (vp 0 0), some (vp 31 0), some (vp 43 0), some (vp 44 0), some (vi l5), some (vi v1), some (vi v5), o8], ([], Gu (u.1 + u3.1, u.2 + u3.2) x4 m8))) Q) ∧ (¬ ((lg_cmp (x4.1) (v5.toInt64)) = 0) → Q (.inl (some (vi 0)), Gu (u.1 + u3.1, u.2 + u3.2) x4 m8)))))) ∧ (¬ (v7 = v1) → Q (.inl (some (vi 0)), Gu (u.1 + u3.1, u.2 + u3.2) x4 m8))))))))) : Wp X (d + 1) 322 (1148, ([some (vs 0 0), some (vp 0 0), some (vp 31 0), some (vp 43 0), some (vp 44 0), some (vi l5), o6, o7, o8], ([], Gu u x m))) Q := by
  obtain ⟨hg1_0, h⟩ := h
  refine wp_run 7 (inb (l5 + 1) X.1 && true) (1156, ([some (vs 0 0), some (vp 0 0), some (vp 31 0), some (vp 43 0), some (vp 44 0), some (vi l5), o6, o7, o8], ([vp 43 0, vi (X.2 (l5 + 1).toNatClampNeg), vp 0 0], Gu u x m))) rfl (and_t hg1_0 rfl) ?_
  refine wp_call 292 [vp 0 0, vi (X.2 (l5 + 1).toNatClampNeg), vp 43 0] (1159, ([some (vs 0 0), some (vp 0 0), some (vp 31 0), some (vp 43 0), some (vp 44 0), some (vi l5), o6, o7, o8], ([], Gu u x m))) rfl rfl (Cl.mono h (Nat.le_refl _) ?_)
  rintro r ⟨v1, m2, u3, x4, rfl, h⟩
  · show Wp X (d + 1) 322 (1159, ([some (vs 0 0), some (vp 0 0), some (vp 31 0), some (vp 43 0), some (vp 44 0), some (vi l5), o6, o7, o8], ([vi v1], Gu (u.1 + u3.1, u.2 + u3.2) x4 m2))) Q
    obtain ⟨hg2_0, h⟩ := h
    refine wp_run 7 (inb (l5 + 1) X.1 && true) (1168, ([some (vs 0 0), some (vp 0 0), some (vp 31 0), some (vp 43 0), some (vp 44 0), some (vi l5), some (vi v1), o7, o8], ([vi (X.2 (l5 + 1).toNatClampNeg), vp 31 0], Gu (u.1 + u3.1, u.2 + u3.2) x4 m2))) rfl (and_t hg2_0 rfl) ?_
    refine wp_call 204 [vp 31 0, vi (X.2 (l5 + 1).toNatClampNeg)] (1171, ([some (vs 0 0), some (vp 0 0), some (vp 31 0), some (vp 43 0), some (vp 44 0), some (vi l5), some (vi v1), o7, o8], ([], Gu (u.1 + u3.1, u.2 + u3.2) x4 m2))) rfl rfl (Cl.mono h (Nat.le_refl _) ?_)
    rintro r ⟨v5, m6, rfl, h⟩
    · show Wp X (d + 1) 322 (1171, ([some (vs 0 0), some (vp 0 0), some (vp 31 0), some (vp 43 0), some (vp 44 0), some (vi l5), some (vi v1), o7, o8], ([vi v5], Gu (u.1 + u3.1, u.2 + u3.2) x4 m6))) Q
      refine wp_run 2 true (1174, ([some (vs 0 0), some (vp 0 0), some (vp 31 0), some (vp 43 0), some (vp 44 0), some (vi l5), some (vi v1), some (vi v5), o8], ([vp 31 0], Gu (u.1 + u3.1, u.2 + u3.2) x4 m6))) rfl rfl ?_
      refine wp_call 146 [vp 31 0] (1177, ([some (vs 0 0), some (vp 0 0), some (vp 31 0), some (vp 43 0), some (vp 44 0), some (vi l5), some (vi v1), some (vi v5), o8], ([], Gu (u.1 + u3.1, u.2 + u3.2) x4 m6))) rfl rfl (Cl.mono h (Nat.le_refl _) ?_)
      rintro r ⟨v7, m8, rfl, h⟩
      · show Wp X (d + 1) 322 (1177, ([some (vs 0 0), some (vp 0 0), some (vp 31 0), some (vp 43 0), some (vp 44 0), some (vi l5), some (vi v1), some (vi v5), o8], ([vi v7], Gu (u.1 + u3.1, u.2 + u3.2) x4 m8))) Q
        refine wp_run 2 true ((bif decide (v7 = v1) then 1184 else 1182), ([some (vs 0 0), some (vp 0 0), some (vp 31 0), some (vp 43 0), some (vp 44 0), some (vi l5), some (vi v1), some (vi v5), o8], ([], Gu (u.1 + u3.1, u.2 + u3.2) x4 m8))) rfl rfl ?_
        refine wp_if (v7 = v1) (fun c9 => ?_) (fun c9 => ?_)
        · have h := h.1 c9
          refine wp_run 2 true ((bif decide (¬ v1 = 0) then 1201 else 1189), ([some (vs 0 0), some (vp 0 0), some (vp 31 0), some (vp 43 0), some (vp 44 0), some (vi l5), some (vi v1), some (vi v5), o8], ([], Gu (u.1 + u3.1, u.2 + u3.2) x4 m8))) rfl rfl ?_
          refine wp_if (¬ v1 = 0) (fun c10 => ?_) (fun c10 => ?_)
          · have h := h.1 c10
            refine wp_run 1 true (2999, ([some (vs 0 0), some (vp 0 0), some (vp 31 0), some (vp 43 0), some (vp 44 0), some (vi l5), some (vi v1), some (vi v5), o8], ([], Gu (u.1 + u3.1, u.2 + u3.2) x4 m8))) rfl rfl ?_
            exact h
          · have h := h.2 c10
            refine wp_run 7 true ((bif decide ((lg_cmp (x4.1) (v5.toInt64)) = 0) then 1201 else 1199), ([some (vs 0 0), some (vp 0 0), some (vp 31 0), some (vp 43 0), some (vp 44 0), some (vi l5), some (vi v1), some (vi v5), o8], ([], Gu (u.1 + u3.1, u.2 + u3.2) x4 m8))) rfl rfl ?_
            refine wp_if ((lg_cmp (x4.1) (v5.toInt64)) = 0) (fun c11 => ?_) (fun c11 => ?_)
            · have h := h.1 c11
              refine wp_run 1 true (2999, ([some (vs 0 0), some (vp 0 0), some (vp 31 0), some (vp 43 0), some (vp 44 0), some (vi l5), some (vi v1), some (vi v5), o8], ([], Gu (u.1 + u3.1, u.2 + u3.2) x4 m8))) rfl rfl ?_
              exact h
            · have h := h.2 c11
              refine wp_run 1 true (1200, ([some (vs 0 0), some (vp 0 0), some (vp 31 0), some (vp 43 0), some (vp 44 0), some (vi l5), some (vi v1), some (vi v5), o8], ([vi 0], Gu (u.1 + u3.1, u.2 + u3.2) x4 m8))) rfl rfl ?_
              exact wp_ret rfl h
        · have h := h.2 c9
          refine wp_run 1 true (1183, ([some (vs 0 0), some (vp 0 0), some (vp 31 0), some (vp 43 0), some (vp 44 0), some (vi l5), some (vi v1), some (vi v5), o8], ([vi 0], Gu (u.1 + u3.1, u.2 + u3.2) x4 m8))) rfl rfl ?_
          exact wp_ret rfl h
set_option maxRecDepth 100000 in
set_option maxHeartbeats 4000000 in
theorem vl_law_1204 {X : MX} {d : Nat} {x : Int64 × UInt64} {m : MI} {Q : MRes → Prop} {u : Nat × Nat} {l5 : Int32} {o6 : Option MV} {o7 : Option MV} {o8 : Option MV} (h : (inb (l5 + 1) X.1 = true ∧ Cl X d 293 [vp 0 0, vi (X.2 (l5 + 1).toNatClampNeg), vp 43 0] (Gu u x m) (fun r => ∃ (v1 : Int32) (m2 : MI) (u3 : Nat × Nat) (x4 : Int64 × UInt64), r = (.inl (some (vi v1)), Gu u3 x4 m2) ∧ (inb (l5 + 1) X.1 = true ∧ Cl X d 205 [vp 31 0, vi (X.2 (l5 + 1).toNatClampNeg)] (Gu (u.1 + u3.1, u.2 + u3.2) x4 m2) (fun r => ∃ (v5 : Int32) (m6 : MI), r = (.inl (some (vi v5)), G x4 m6) ∧ Cl X d 146 [vp 31 0] (Gu (u.1 + u3.1, u.2 + u3.2) x4 m6) (fun r => ∃ (v7 : Int32) (m8 : MI), r = (.inl (some (vi v7)), G x4 m8) ∧ ((v7 = v1 → ((¬ v1 = 0 → Wp X (d + 1) 322 (2999, ([some (vs 0 0), some (vp 0 0), some (vp 31 0), some (vp 43 0), some (vp 44 0), some (vi l5), some (vi v1), some (vi v5), o8], ([], Gu (u.1 + u3.1, u.2 + u3.2) x4 m8))) Q) ∧ (¬ (¬ v1 = 0) → (((lg_cmp (x4.1) (v5.toInt64)) = 0 → Wp X (d + 1) 322 (2999, ([some (vs 0 0), some (vp 0 0), some (vp 31 0), some (vp 43 0), some (vp 44 0), some (vi l5), some (vi v1), some (vi v5), o8], ([], Gu (u.1 + u3.1, u.2 + u3.2) x4 m8))) Q) ∧ (¬ ((lg_cmp (x4.1) (v5.toInt64)) = 0) → Q (.inl (some (vi 0)), Gu (u.1 + u3.1, u.2 + u3.2) x4 m8)))))) ∧ (¬ (v7 = v1) → Q (.inl (some (vi 0)), Gu (u.1 + u3.1, u.2 + u3.2) x4 m8))))))))) : Wp X (d + 1) 322 (1204, ([some (vs 0 0), some (vp 0 0), some (vp 31 0), some (vp 43 0), some (vp 44 0), some (vi l5), o6, o7, o8], ([], Gu u x m))) Q := by
  obtain ⟨hg1_0, h⟩ := h
  refine wp_run 7 (inb (l5 + 1) X.1 && true) (1212, ([some (vs 0 0), some (vp 0 0), some (vp 31 0), some (vp 43 0), some (vp 44 0), some (vi l5), o6, o7, o8], ([vp 43 0, vi (X.2 (l5 + 1).toNatClampNeg), vp 0 0], Gu u x m))) rfl (and_t hg1_0 rfl) ?_
  refine wp_call 293 [vp 0 0, vi (X.2 (l5 + 1).toNatClampNeg), vp 43 0] (1215, ([some (vs 0 0), some (vp 0 0), some (vp 31 0), some (vp 43 0), some (vp 44 0), some (vi l5), o6, o7, o8], ([], Gu u x m))) rfl rfl (Cl.mono h (Nat.le_refl _) ?_)
  rintro r ⟨v1, m2, u3, x4, rfl, h⟩
  · show Wp X (d + 1) 322 (1215, ([some (vs 0 0), some (vp 0 0), some (vp 31 0), some (vp 43 0), some (vp 44 0), some (vi l5), o6, o7, o8], ([vi v1], Gu (u.1 + u3.1, u.2 + u3.2) x4 m2))) Q
    obtain ⟨hg2_0, h⟩ := h
    refine wp_run 7 (inb (l5 + 1) X.1 && true) (1224, ([some (vs 0 0), some (vp 0 0), some (vp 31 0), some (vp 43 0), some (vp 44 0), some (vi l5), some (vi v1), o7, o8], ([vi (X.2 (l5 + 1).toNatClampNeg), vp 31 0], Gu (u.1 + u3.1, u.2 + u3.2) x4 m2))) rfl (and_t hg2_0 rfl) ?_
    refine wp_call 205 [vp 31 0, vi (X.2 (l5 + 1).toNatClampNeg)] (1227, ([some (vs 0 0), some (vp 0 0), some (vp 31 0), some (vp 43 0), some (vp 44 0), some (vi l5), some (vi v1), o7, o8], ([], Gu (u.1 + u3.1, u.2 + u3.2) x4 m2))) rfl rfl (Cl.mono h (Nat.le_refl _) ?_)
    rintro r ⟨v5, m6, rfl, h⟩
    · show Wp X (d + 1) 322 (1227, ([some (vs 0 0), some (vp 0 0), some (vp 31 0), some (vp 43 0), some (vp 44 0), some (vi l5), some (vi v1), o7, o8], ([vi v5], Gu (u.1 + u3.1, u.2 + u3.2) x4 m6))) Q
      refine wp_run 2 true (1230, ([some (vs 0 0), some (vp 0 0), some (vp 31 0), some (vp 43 0), some (vp 44 0), some (vi l5), some (vi v1), some (vi v5), o8], ([vp 31 0], Gu (u.1 + u3.1, u.2 + u3.2) x4 m6))) rfl rfl ?_
      refine wp_call 146 [vp 31 0] (1233, ([some (vs 0 0), some (vp 0 0), some (vp 31 0), some (vp 43 0), some (vp 44 0), some (vi l5), some (vi v1), some (vi v5), o8], ([], Gu (u.1 + u3.1, u.2 + u3.2) x4 m6))) rfl rfl (Cl.mono h (Nat.le_refl _) ?_)
      rintro r ⟨v7, m8, rfl, h⟩
      · show Wp X (d + 1) 322 (1233, ([some (vs 0 0), some (vp 0 0), some (vp 31 0), some (vp 43 0), some (vp 44 0), some (vi l5), some (vi v1), some (vi v5), o8], ([vi v7], Gu (u.1 + u3.1, u.2 + u3.2) x4 m8))) Q
        refine wp_run 2 true ((bif decide (v7 = v1) then 1240 else 1238), ([some (vs 0 0), some (vp 0 0), some (vp 31 0), some (vp 43 0), some (vp 44 0), some (vi l5), some (vi v1), some (vi v5), o8], ([], Gu (u.1 + u3.1, u.2 + u3.2) x4 m8))) rfl rfl ?_
        refine wp_if (v7 = v1) (fun c9 => ?_) (fun c9 => ?_)
        · have h := h.1 c9
          refine wp_run 2 true ((bif decide (¬ v1 = 0) then 1257 else 1245), ([some (vs 0 0), some (vp 0 0), some (vp 31 0), some (vp 43 0), some (vp 44 0), some (vi l5), some (vi v1), some (vi v5), o8], ([], Gu (u.1 + u3.1, u.2 + u3.2) x4 m8))) rfl rfl ?_
          refine wp_if (¬ v1 = 0) (fun c10 => ?_) (fun c10 => ?_)
          · have h := h.1 c10
            refine wp_run 1 true (2999, ([some (vs 0 0), some (vp 0 0), some (vp 31 0), some (vp 43 0), some (vp 44 0), some (vi l5), some (vi v1), some (vi v5), o8], ([], Gu (u.1 + u3.1, u.2 + u3.2) x4 m8))) rfl rfl ?_
            exact h
          · have h := h.2 c10
            refine wp_run 7 true ((bif decide ((lg_cmp (x4.1) (v5.toInt64)) = 0) then 1257 else 1255), ([some (vs 0 0), some (vp 0 0), some (vp 31 0), some (vp 43 0), some (vp 44 0), some (vi l5), some (vi v1), some (vi v5), o8], ([], Gu (u.1 + u3.1, u.2 + u3.2) x4 m8))) rfl rfl ?_
            refine wp_if ((lg_cmp (x4.1) (v5.toInt64)) = 0) (fun c11 => ?_) (fun c11 => ?_)
            · have h := h.1 c11
              refine wp_run 1 true (2999, ([some (vs 0 0), some (vp 0 0), some (vp 31 0), some (vp 43 0), some (vp 44 0), some (vi l5), some (vi v1), some (vi v5), o8], ([], Gu (u.1 + u3.1, u.2 + u3.2) x4 m8))) rfl rfl ?_
              exact h
            · have h := h.2 c11
              refine wp_run 1 true (1256, ([some (vs 0 0), some (vp 0 0), some (vp 31 0), some (vp 43 0), some (vp 44 0), some (vi l5), some (vi v1), some (vi v5), o8], ([vi 0], Gu (u.1 + u3.1, u.2 + u3.2) x4 m8))) rfl rfl ?_
              exact wp_ret rfl h
        · have h := h.2 c9
          refine wp_run 1 true (1239, ([some (vs 0 0), some (vp 0 0), some (vp 31 0), some (vp 43 0), some (vp 44 0), some (vi l5), some (vi v1), some (vi v5), o8], ([vi 0], Gu (u.1 + u3.1, u.2 + u3.2) x4 m8))) rfl rfl ?_
          exact wp_ret rfl h
set_option maxRecDepth 100000 in
set_option maxHeartbeats 4000000 in
theorem vl_law_1260 {X : MX} {d : Nat} {x : Int64 × UInt64} {m : MI} {Q : MRes → Prop} {u : Nat × Nat} {l5 : Int32} {o6 : Option MV} {o7 : Option MV} {o8 : Option MV} (h : (inb (l5 + 1) X.1 = true ∧ Cl X d 294 [vp 0 0, vi (X.2 (l5 + 1).toNatClampNeg), vp 43 0] (Gu u x m) (fun r => ∃ (v1 : Int32) (m2 : MI) (u3 : Nat × Nat) (x4 : Int64 × UInt64), r = (.inl (some (vi v1)), Gu u3 x4 m2) ∧ (inb (l5 + 1) X.1 = true ∧ Cl X d 207 [vp 31 0, vi (X.2 (l5 + 1).toNatClampNeg)] (Gu (u.1 + u3.1, u.2 + u3.2) x4 m2) (fun r => ∃ (v5 : Int32) (m6 : MI), r = (.inl (some (vi v5)), G x4 m6) ∧ Cl X d 146 [vp 31 0] (Gu (u.1 + u3.1, u.2 + u3.2) x4 m6) (fun r => ∃ (v7 : Int32) (m8 : MI), r = (.inl (some (vi v7)), G x4 m8) ∧ ((v7 = v1 → ((¬ v1 = 0 → Wp X (d + 1) 322 (2999, ([some (vs 0 0), some (vp 0 0), some (vp 31 0), some (vp 43 0), some (vp 44 0), some (vi l5), some (vi v1), some (vi v5), o8], ([], Gu (u.1 + u3.1, u.2 + u3.2) x4 m8))) Q) ∧ (¬ (¬ v1 = 0) → (((lg_cmp (x4.1) (v5.toInt64)) = 0 → Wp X (d + 1) 322 (2999, ([some (vs 0 0), some (vp 0 0), some (vp 31 0), some (vp 43 0), some (vp 44 0), some (vi l5), some (vi v1), some (vi v5), o8], ([], Gu (u.1 + u3.1, u.2 + u3.2) x4 m8))) Q) ∧ (¬ ((lg_cmp (x4.1) (v5.toInt64)) = 0) → Q (.inl (some (vi 0)), Gu (u.1 + u3.1, u.2 + u3.2) x4 m8)))))) ∧ (¬ (v7 = v1) → Q (.inl (some (vi 0)), Gu (u.1 + u3.1, u.2 + u3.2) x4 m8))))))))) : Wp X (d + 1) 322 (1260, ([some (vs 0 0), some (vp 0 0), some (vp 31 0), some (vp 43 0), some (vp 44 0), some (vi l5), o6, o7, o8], ([], Gu u x m))) Q := by
  obtain ⟨hg1_0, h⟩ := h
  refine wp_run 7 (inb (l5 + 1) X.1 && true) (1268, ([some (vs 0 0), some (vp 0 0), some (vp 31 0), some (vp 43 0), some (vp 44 0), some (vi l5), o6, o7, o8], ([vp 43 0, vi (X.2 (l5 + 1).toNatClampNeg), vp 0 0], Gu u x m))) rfl (and_t hg1_0 rfl) ?_
  refine wp_call 294 [vp 0 0, vi (X.2 (l5 + 1).toNatClampNeg), vp 43 0] (1271, ([some (vs 0 0), some (vp 0 0), some (vp 31 0), some (vp 43 0), some (vp 44 0), some (vi l5), o6, o7, o8], ([], Gu u x m))) rfl rfl (Cl.mono h (Nat.le_refl _) ?_)
  rintro r ⟨v1, m2, u3, x4, rfl, h⟩
  · show Wp X (d + 1) 322 (1271, ([some (vs 0 0), some (vp 0 0), some (vp 31 0), some (vp 43 0), some (vp 44 0), some (vi l5), o6, o7, o8], ([vi v1], Gu (u.1 + u3.1, u.2 + u3.2) x4 m2))) Q
    obtain ⟨hg2_0, h⟩ := h
    refine wp_run 7 (inb (l5 + 1) X.1 && true) (1280, ([some (vs 0 0), some (vp 0 0), some (vp 31 0), some (vp 43 0), some (vp 44 0), some (vi l5), some (vi v1), o7, o8], ([vi (X.2 (l5 + 1).toNatClampNeg), vp 31 0], Gu (u.1 + u3.1, u.2 + u3.2) x4 m2))) rfl (and_t hg2_0 rfl) ?_
    refine wp_call 207 [vp 31 0, vi (X.2 (l5 + 1).toNatClampNeg)] (1283, ([some (vs 0 0), some (vp 0 0), some (vp 31 0), some (vp 43 0), some (vp 44 0), some (vi l5), some (vi v1), o7, o8], ([], Gu (u.1 + u3.1, u.2 + u3.2) x4 m2))) rfl rfl (Cl.mono h (Nat.le_refl _) ?_)
    rintro r ⟨v5, m6, rfl, h⟩
    · show Wp X (d + 1) 322 (1283, ([some (vs 0 0), some (vp 0 0), some (vp 31 0), some (vp 43 0), some (vp 44 0), some (vi l5), some (vi v1), o7, o8], ([vi v5], Gu (u.1 + u3.1, u.2 + u3.2) x4 m6))) Q
      refine wp_run 2 true (1286, ([some (vs 0 0), some (vp 0 0), some (vp 31 0), some (vp 43 0), some (vp 44 0), some (vi l5), some (vi v1), some (vi v5), o8], ([vp 31 0], Gu (u.1 + u3.1, u.2 + u3.2) x4 m6))) rfl rfl ?_
      refine wp_call 146 [vp 31 0] (1289, ([some (vs 0 0), some (vp 0 0), some (vp 31 0), some (vp 43 0), some (vp 44 0), some (vi l5), some (vi v1), some (vi v5), o8], ([], Gu (u.1 + u3.1, u.2 + u3.2) x4 m6))) rfl rfl (Cl.mono h (Nat.le_refl _) ?_)
      rintro r ⟨v7, m8, rfl, h⟩
      · show Wp X (d + 1) 322 (1289, ([some (vs 0 0), some (vp 0 0), some (vp 31 0), some (vp 43 0), some (vp 44 0), some (vi l5), some (vi v1), some (vi v5), o8], ([vi v7], Gu (u.1 + u3.1, u.2 + u3.2) x4 m8))) Q
        refine wp_run 2 true ((bif decide (v7 = v1) then 1296 else 1294), ([some (vs 0 0), some (vp 0 0), some (vp 31 0), some (vp 43 0), some (vp 44 0), some (vi l5), some (vi v1), some (vi v5), o8], ([], Gu (u.1 + u3.1, u.2 + u3.2) x4 m8))) rfl rfl ?_
        refine wp_if (v7 = v1) (fun c9 => ?_) (fun c9 => ?_)
        · have h := h.1 c9
          refine wp_run 2 true ((bif decide (¬ v1 = 0) then 1313 else 1301), ([some (vs 0 0), some (vp 0 0), some (vp 31 0), some (vp 43 0), some (vp 44 0), some (vi l5), some (vi v1), some (vi v5), o8], ([], Gu (u.1 + u3.1, u.2 + u3.2) x4 m8))) rfl rfl ?_
          refine wp_if (¬ v1 = 0) (fun c10 => ?_) (fun c10 => ?_)
          · have h := h.1 c10
            refine wp_run 1 true (2999, ([some (vs 0 0), some (vp 0 0), some (vp 31 0), some (vp 43 0), some (vp 44 0), some (vi l5), some (vi v1), some (vi v5), o8], ([], Gu (u.1 + u3.1, u.2 + u3.2) x4 m8))) rfl rfl ?_
            exact h
          · have h := h.2 c10
            refine wp_run 7 true ((bif decide ((lg_cmp (x4.1) (v5.toInt64)) = 0) then 1313 else 1311), ([some (vs 0 0), some (vp 0 0), some (vp 31 0), some (vp 43 0), some (vp 44 0), some (vi l5), some (vi v1), some (vi v5), o8], ([], Gu (u.1 + u3.1, u.2 + u3.2) x4 m8))) rfl rfl ?_
            refine wp_if ((lg_cmp (x4.1) (v5.toInt64)) = 0) (fun c11 => ?_) (fun c11 => ?_)
            · have h := h.1 c11
              refine wp_run 1 true (2999, ([some (vs 0 0), some (vp 0 0), some (vp 31 0), some (vp 43 0), some (vp 44 0), some (vi l5), some (vi v1), some (vi v5), o8], ([], Gu (u.1 + u3.1, u.2 + u3.2) x4 m8))) rfl rfl ?_
              exact h
            · have h := h.2 c11
              refine wp_run 1 true (1312, ([some (vs 0 0), some (vp 0 0), some (vp 31 0), some (vp 43 0), some (vp 44 0), some (vi l5), some (vi v1), some (vi v5), o8], ([vi 0], Gu (u.1 + u3.1, u.2 + u3.2) x4 m8))) rfl rfl ?_
              exact wp_ret rfl h
        · have h := h.2 c9
          refine wp_run 1 true (1295, ([some (vs 0 0), some (vp 0 0), some (vp 31 0), some (vp 43 0), some (vp 44 0), some (vi l5), some (vi v1), some (vi v5), o8], ([vi 0], Gu (u.1 + u3.1, u.2 + u3.2) x4 m8))) rfl rfl ?_
          exact wp_ret rfl h
set_option maxRecDepth 100000 in
set_option maxHeartbeats 4000000 in
theorem vl_law_1316 {X : MX} {d : Nat} {x : Int64 × UInt64} {m : MI} {Q : MRes → Prop} {u : Nat × Nat} {l5 : Int32} {o6 : Option MV} {o7 : Option MV} {o8 : Option MV} (h : Cl X d 19 [vp 0 0] (Gu u x m) (fun r => ∃ (v1 : Int32) (m2 : MI), r = (.inl (some (vi v1)), G x m2) ∧ Cl X d 208 [vp 31 0] (Gu u x m2) (fun r => ∃ (v3 : Int32) (m4 : MI), r = (.inl (some (vi v3)), G x m4) ∧ ((v1 = v3 → Wp X (d + 1) 322 (2999, ([some (vs 0 0), some (vp 0 0), some (vp 31 0), some (vp 43 0), some (vp 44 0), some (vi l5), o6, o7, o8], ([], Gu u x m4))) Q) ∧ (¬ (v1 = v3) → Q (.inl (some (vi 0)), Gu u x m4)))))) : Wp X (d + 1) 322 (1316, ([some (vs 0 0), some (vp 0 0), some (vp 31 0), some (vp 43 0), some (vp 44 0), some (vi l5), o6, o7, o8], ([], Gu u x m))) Q := by
  refine wp_run 1 true (1317, ([some (vs 0 0), some (vp 0 0), some (vp 31 0), some (vp 43 0), some (vp 44 0), some (vi l5), o6, o7, o8], ([vp 0 0], Gu u x m))) rfl rfl ?_
  refine wp_call 19 [vp 0 0] (1320, ([some (vs 0 0), some (vp 0 0), some (vp 31 0), some (vp 43 0), some (vp 44 0), some (vi l5), o6, o7, o8], ([], Gu u x m))) rfl rfl (Cl.mono h (Nat.le_refl _) ?_)
  rintro r ⟨v1, m2, rfl, h⟩
  · show Wp X (d + 1) 322 (1320, ([some (vs 0 0), some (vp 0 0), some (vp 31 0), some (vp 43 0), some (vp 44 0), some (vi l5), o6, o7, o8], ([vi v1], Gu u x m2))) Q
    refine wp_run 1 true (1321, ([some (vs 0 0), some (vp 0 0), some (vp 31 0), some (vp 43 0), some (vp 44 0), some (vi l5), o6, o7, o8], ([vp 31 0, vi v1], Gu u x m2))) rfl rfl ?_
    refine wp_call 208 [vp 31 0] (1324, ([some (vs 0 0), some (vp 0 0), some (vp 31 0), some (vp 43 0), some (vp 44 0), some (vi l5), o6, o7, o8], ([vi v1], Gu u x m2))) rfl rfl (Cl.mono h (Nat.le_refl _) ?_)
    rintro r ⟨v3, m4, rfl, h⟩
    · show Wp X (d + 1) 322 (1324, ([some (vs 0 0), some (vp 0 0), some (vp 31 0), some (vp 43 0), some (vp 44 0), some (vi l5), o6, o7, o8], ([vi v3, vi v1], Gu u x m4))) Q
      refine wp_run 1 true ((bif decide (v1 = v3) then 2999 else 1327), ([some (vs 0 0), some (vp 0 0), some (vp 31 0), some (vp 43 0), some (vp 44 0), some (vi l5), o6, o7, o8], ([], Gu u x m4))) rfl rfl ?_
      refine wp_if (v1 = v3) (fun c5 => ?_) (fun c5 => ?_)
      · have h := h.1 c5
        exact h
      · have h := h.2 c5
        refine wp_run 1 true (1328, ([some (vs 0 0), some (vp 0 0), some (vp 31 0), some (vp 43 0), some (vp 44 0), some (vi l5), o6, o7, o8], ([vi 0], Gu u x m4))) rfl rfl ?_
        exact wp_ret rfl h
set_option maxRecDepth 100000 in
set_option maxHeartbeats 4000000 in
theorem vl_law_1329 {X : MX} {d : Nat} {x : Int64 × UInt64} {m : MI} {Q : MRes → Prop} {u : Nat × Nat} {l5 : Int32} {o6 : Option MV} {o7 : Option MV} {o8 : Option MV} (h : (inb (l5 + 1) X.1 = true ∧ Cl X d 295 [vp 0 0, vi (X.2 (l5 + 1).toNatClampNeg), vp 43 0] (Gu u x m) (fun r => ∃ (v1 : Int32) (m2 : MI) (u3 : Nat × Nat) (x4 : Int64 × UInt64), r = (.inl (some (vi v1)), Gu u3 x4 m2) ∧ (inb (l5 + 1) X.1 = true ∧ Cl X d 209 [vp 31 0, vi (X.2 (l5 + 1).toNatClampNeg)] (Gu (u.1 + u3.1, u.2 + u3.2) x4 m2) (fun r => ∃ (v5 : Int32) (m6 : MI), r = (.inl (some (vi v5)), G x4 m6) ∧ Cl X d 146 [vp 31 0] (Gu (u.1 + u3.1, u.2 + u3.2) x4 m6) (fun r => ∃ (v7 : Int32) (m8 : MI), r = (.inl (some (vi v7)), G x4 m8) ∧ ((v7 = v1 → ((¬ v1 = 0 → Wp X (d + 1) 322 (2999, ([some (vs 0 0), some (vp 0 0), some (vp 31 0), some (vp 43 0), some (vp 44 0), some (vi l5), some (vi v1), some (vi v5), o8], ([], Gu (u.1 + u3.1, u.2 + u3.2) x4 m8))) Q) ∧ (¬ (¬ v1 = 0) → (((lg_cmp (x4.1) (v5.toInt64)) = 0 → Wp X (d + 1) 322 (2999, ([some (vs 0 0), some (vp 0 0), some (vp 31 0), some (vp 43 0), some (vp 44 0), some (vi l5), some (vi v1), some (vi v5), o8], ([], Gu (u.1 + u3.1, u.2 + u3.2) x4 m8))) Q) ∧ (¬ ((lg_cmp (x4.1) (v5.toInt64)) = 0) → Q (.inl (some (vi 0)), Gu (u.1 + u3.1, u.2 + u3.2) x4 m8)))))) ∧ (¬ (v7 = v1) → Q (.inl (some (vi 0)), Gu (u.1 + u3.1, u.2 + u3.2) x4 m8))))))))) : Wp X (d + 1) 322 (1329, ([some (vs 0 0), some (vp 0 0), some (vp 31 0), some (vp 43 0), some (vp 44 0), some (vi l5), o6, o7, o8], ([], Gu u x m))) Q := by
  obtain ⟨hg1_0, h⟩ := h
  refine wp_run 7 (inb (l5 + 1) X.1 && true) (1337, ([some (vs 0 0), some (vp 0 0), some (vp 31 0), some (vp 43 0), some (vp 44 0), some (vi l5), o6, o7, o8], ([vp 43 0, vi (X.2 (l5 + 1).toNatClampNeg), vp 0 0], Gu u x m))) rfl (and_t hg1_0 rfl) ?_
  refine wp_call 295 [vp 0 0, vi (X.2 (l5 + 1).toNatClampNeg), vp 43 0] (1340, ([some (vs 0 0), some (vp 0 0), some (vp 31 0), some (vp 43 0), some (vp 44 0), some (vi l5), o6, o7, o8], ([], Gu u x m))) rfl rfl (Cl.mono h (Nat.le_refl _) ?_)
  rintro r ⟨v1, m2, u3, x4, rfl, h⟩
  · show Wp X (d + 1) 322 (1340, ([some (vs 0 0), some (vp 0 0), some (vp 31 0), some (vp 43 0), some (vp 44 0), some (vi l5), o6, o7, o8], ([vi v1], Gu (u.1 + u3.1, u.2 + u3.2) x4 m2))) Q
    obtain ⟨hg2_0, h⟩ := h
    refine wp_run 7 (inb (l5 + 1) X.1 && true) (1349, ([some (vs 0 0), some (vp 0 0), some (vp 31 0), some (vp 43 0), some (vp 44 0), some (vi l5), some (vi v1), o7, o8], ([vi (X.2 (l5 + 1).toNatClampNeg), vp 31 0], Gu (u.1 + u3.1, u.2 + u3.2) x4 m2))) rfl (and_t hg2_0 rfl) ?_
    refine wp_call 209 [vp 31 0, vi (X.2 (l5 + 1).toNatClampNeg)] (1352, ([some (vs 0 0), some (vp 0 0), some (vp 31 0), some (vp 43 0), some (vp 44 0), some (vi l5), some (vi v1), o7, o8], ([], Gu (u.1 + u3.1, u.2 + u3.2) x4 m2))) rfl rfl (Cl.mono h (Nat.le_refl _) ?_)
    rintro r ⟨v5, m6, rfl, h⟩
    · show Wp X (d + 1) 322 (1352, ([some (vs 0 0), some (vp 0 0), some (vp 31 0), some (vp 43 0), some (vp 44 0), some (vi l5), some (vi v1), o7, o8], ([vi v5], Gu (u.1 + u3.1, u.2 + u3.2) x4 m6))) Q
      refine wp_run 2 true (1355, ([some (vs 0 0), some (vp 0 0), some (vp 31 0), some (vp 43 0), some (vp 44 0), some (vi l5), some (vi v1), some (vi v5), o8], ([vp 31 0], Gu (u.1 + u3.1, u.2 + u3.2) x4 m6))) rfl rfl ?_
      refine wp_call 146 [vp 31 0] (1358, ([some (vs 0 0), some (vp 0 0), some (vp 31 0), some (vp 43 0), some (vp 44 0), some (vi l5), some (vi v1), some (vi v5), o8], ([], Gu (u.1 + u3.1, u.2 + u3.2) x4 m6))) rfl rfl (Cl.mono h (Nat.le_refl _) ?_)
      rintro r ⟨v7, m8, rfl, h⟩
      · show Wp X (d + 1) 322 (1358, ([some (vs 0 0), some (vp 0 0), some (vp 31 0), some (vp 43 0), some (vp 44 0), some (vi l5), some (vi v1), some (vi v5), o8], ([vi v7], Gu (u.1 + u3.1, u.2 + u3.2) x4 m8))) Q
        refine wp_run 2 true ((bif decide (v7 = v1) then 1365 else 1363), ([some (vs 0 0), some (vp 0 0), some (vp 31 0), some (vp 43 0), some (vp 44 0), some (vi l5), some (vi v1), some (vi v5), o8], ([], Gu (u.1 + u3.1, u.2 + u3.2) x4 m8))) rfl rfl ?_
        refine wp_if (v7 = v1) (fun c9 => ?_) (fun c9 => ?_)
        · have h := h.1 c9
          refine wp_run 2 true ((bif decide (¬ v1 = 0) then 1382 else 1370), ([some (vs 0 0), some (vp 0 0), some (vp 31 0), some (vp 43 0), some (vp 44 0), some (vi l5), some (vi v1), some (vi v5), o8], ([], Gu (u.1 + u3.1, u.2 + u3.2) x4 m8))) rfl rfl ?_
          refine wp_if (¬ v1 = 0) (fun c10 => ?_) (fun c10 => ?_)
          · have h := h.1 c10
            refine wp_run 1 true (2999, ([some (vs 0 0), some (vp 0 0), some (vp 31 0), some (vp 43 0), some (vp 44 0), some (vi l5), some (vi v1), some (vi v5), o8], ([], Gu (u.1 + u3.1, u.2 + u3.2) x4 m8))) rfl rfl ?_
            exact h
          · have h := h.2 c10
            refine wp_run 7 true ((bif decide ((lg_cmp (x4.1) (v5.toInt64)) = 0) then 1382 else 1380), ([some (vs 0 0), some (vp 0 0), some (vp 31 0), some (vp 43 0), some (vp 44 0), some (vi l5), some (vi v1), some (vi v5), o8], ([], Gu (u.1 + u3.1, u.2 + u3.2) x4 m8))) rfl rfl ?_
            refine wp_if ((lg_cmp (x4.1) (v5.toInt64)) = 0) (fun c11 => ?_) (fun c11 => ?_)
            · have h := h.1 c11
              refine wp_run 1 true (2999, ([some (vs 0 0), some (vp 0 0), some (vp 31 0), some (vp 43 0), some (vp 44 0), some (vi l5), some (vi v1), some (vi v5), o8], ([], Gu (u.1 + u3.1, u.2 + u3.2) x4 m8))) rfl rfl ?_
              exact h
            · have h := h.2 c11
              refine wp_run 1 true (1381, ([some (vs 0 0), some (vp 0 0), some (vp 31 0), some (vp 43 0), some (vp 44 0), some (vi l5), some (vi v1), some (vi v5), o8], ([vi 0], Gu (u.1 + u3.1, u.2 + u3.2) x4 m8))) rfl rfl ?_
              exact wp_ret rfl h
        · have h := h.2 c9
          refine wp_run 1 true (1364, ([some (vs 0 0), some (vp 0 0), some (vp 31 0), some (vp 43 0), some (vp 44 0), some (vi l5), some (vi v1), some (vi v5), o8], ([vi 0], Gu (u.1 + u3.1, u.2 + u3.2) x4 m8))) rfl rfl ?_
          exact wp_ret rfl h
set_option maxRecDepth 100000 in
set_option maxHeartbeats 4000000 in
theorem vl_law_1385 {X : MX} {d : Nat} {x : Int64 × UInt64} {m : MI} {Q : MRes → Prop} {u : Nat × Nat} {l5 : Int32} {o6 : Option MV} {o7 : Option MV} {o8 : Option MV} (h : (inb (l5 + 1) X.1 = true ∧ Cl X d 296 [vp 0 0, vi (X.2 (l5 + 1).toNatClampNeg), vp 43 0] (Gu u x m) (fun r => ∃ (v1 : Int32) (m2 : MI) (u3 : Nat × Nat) (x4 : Int64 × UInt64), r = (.inl (some (vi v1)), Gu u3 x4 m2) ∧ (inb (l5 + 1) X.1 = true ∧ Cl X d 211 [vp 31 0, vi (X.2 (l5 + 1).toNatClampNeg)] (Gu (u.1 + u3.1, u.2 + u3.2) x4 m2) (fun r => ∃ (v5 : Int32) (m6 : MI), r = (.inl (some (vi v5)), G x4 m6) ∧ Cl X d 146 [vp 31 0] (Gu (u.1 + u3.1, u.2 + u3.2) x4 m6) (fun r => ∃ (v7 : Int32) (m8 : MI), r = (.inl (some (vi v7)), G x4 m8) ∧ ((v7 = v1 → ((¬ v1 = 0 → Wp X (d + 1) 322 (2999, ([some (vs 0 0), some (vp 0 0), some (vp 31 0), some (vp 43 0), some (vp 44 0), some (vi l5), some (vi v1), some (vi v5), o8], ([], Gu (u.1 + u3.1, u.2 + u3.2) x4 m8))) Q) ∧ (¬ (¬ v1 = 0) → (((lg_cmp (x4.1) (v5.toInt64)) = 0 → Wp X (d + 1) 322 (2999, ([some (vs 0 0), some (vp 0 0), some (vp 31 0), some (vp 43 0), some (vp 44 0), some (vi l5), some (vi v1), some (vi v5), o8], ([], Gu (u.1 + u3.1, u.2 + u3.2) x4 m8))) Q) ∧ (¬ ((lg_cmp (x4.1) (v5.toInt64)) = 0) → Q (.inl (some (vi 0)), Gu (u.1 + u3.1, u.2 + u3.2) x4 m8)))))) ∧ (¬ (v7 = v1) → Q (.inl (some (vi 0)), Gu (u.1 + u3.1, u.2 + u3.2) x4 m8))))))))) : Wp X (d + 1) 322 (1385, ([some (vs 0 0), some (vp 0 0), some (vp 31 0), some (vp 43 0), some (vp 44 0), some (vi l5), o6, o7, o8], ([], Gu u x m))) Q := by
  obtain ⟨hg1_0, h⟩ := h
  refine wp_run 7 (inb (l5 + 1) X.1 && true) (1393, ([some (vs 0 0), some (vp 0 0), some (vp 31 0), some (vp 43 0), some (vp 44 0), some (vi l5), o6, o7, o8], ([vp 43 0, vi (X.2 (l5 + 1).toNatClampNeg), vp 0 0], Gu u x m))) rfl (and_t hg1_0 rfl) ?_
  refine wp_call 296 [vp 0 0, vi (X.2 (l5 + 1).toNatClampNeg), vp 43 0] (1396, ([some (vs 0 0), some (vp 0 0), some (vp 31 0), some (vp 43 0), some (vp 44 0), some (vi l5), o6, o7, o8], ([], Gu u x m))) rfl rfl (Cl.mono h (Nat.le_refl _) ?_)
  rintro r ⟨v1, m2, u3, x4, rfl, h⟩
  · show Wp X (d + 1) 322 (1396, ([some (vs 0 0), some (vp 0 0), some (vp 31 0), some (vp 43 0), some (vp 44 0), some (vi l5), o6, o7, o8], ([vi v1], Gu (u.1 + u3.1, u.2 + u3.2) x4 m2))) Q
    obtain ⟨hg2_0, h⟩ := h
    refine wp_run 7 (inb (l5 + 1) X.1 && true) (1405, ([some (vs 0 0), some (vp 0 0), some (vp 31 0), some (vp 43 0), some (vp 44 0), some (vi l5), some (vi v1), o7, o8], ([vi (X.2 (l5 + 1).toNatClampNeg), vp 31 0], Gu (u.1 + u3.1, u.2 + u3.2) x4 m2))) rfl (and_t hg2_0 rfl) ?_
    refine wp_call 211 [vp 31 0, vi (X.2 (l5 + 1).toNatClampNeg)] (1408, ([some (vs 0 0), some (vp 0 0), some (vp 31 0), some (vp 43 0), some (vp 44 0), some (vi l5), some (vi v1), o7, o8], ([], Gu (u.1 + u3.1, u.2 + u3.2) x4 m2))) rfl rfl (Cl.mono h (Nat.le_refl _) ?_)
    rintro r ⟨v5, m6, rfl, h⟩
    · show Wp X (d + 1) 322 (1408, ([some (vs 0 0), some (vp 0 0), some (vp 31 0), some (vp 43 0), some (vp 44 0), some (vi l5), some (vi v1), o7, o8], ([vi v5], Gu (u.1 + u3.1, u.2 + u3.2) x4 m6))) Q
      refine wp_run 2 true (1411, ([some (vs 0 0), some (vp 0 0), some (vp 31 0), some (vp 43 0), some (vp 44 0), some (vi l5), some (vi v1), some (vi v5), o8], ([vp 31 0], Gu (u.1 + u3.1, u.2 + u3.2) x4 m6))) rfl rfl ?_
      refine wp_call 146 [vp 31 0] (1414, ([some (vs 0 0), some (vp 0 0), some (vp 31 0), some (vp 43 0), some (vp 44 0), some (vi l5), some (vi v1), some (vi v5), o8], ([], Gu (u.1 + u3.1, u.2 + u3.2) x4 m6))) rfl rfl (Cl.mono h (Nat.le_refl _) ?_)
      rintro r ⟨v7, m8, rfl, h⟩
      · show Wp X (d + 1) 322 (1414, ([some (vs 0 0), some (vp 0 0), some (vp 31 0), some (vp 43 0), some (vp 44 0), some (vi l5), some (vi v1), some (vi v5), o8], ([vi v7], Gu (u.1 + u3.1, u.2 + u3.2) x4 m8))) Q
        refine wp_run 2 true ((bif decide (v7 = v1) then 1421 else 1419), ([some (vs 0 0), some (vp 0 0), some (vp 31 0), some (vp 43 0), some (vp 44 0), some (vi l5), some (vi v1), some (vi v5), o8], ([], Gu (u.1 + u3.1, u.2 + u3.2) x4 m8))) rfl rfl ?_
        refine wp_if (v7 = v1) (fun c9 => ?_) (fun c9 => ?_)
        · have h := h.1 c9
          refine wp_run 2 true ((bif decide (¬ v1 = 0) then 1438 else 1426), ([some (vs 0 0), some (vp 0 0), some (vp 31 0), some (vp 43 0), some (vp 44 0), some (vi l5), some (vi v1), some (vi v5), o8], ([], Gu (u.1 + u3.1, u.2 + u3.2) x4 m8))) rfl rfl ?_
          refine wp_if (¬ v1 = 0) (fun c10 => ?_) (fun c10 => ?_)
          · have h := h.1 c10
            refine wp_run 1 true (2999, ([some (vs 0 0), some (vp 0 0), some (vp 31 0), some (vp 43 0), some (vp 44 0), some (vi l5), some (vi v1), some (vi v5), o8], ([], Gu (u.1 + u3.1, u.2 + u3.2) x4 m8))) rfl rfl ?_
            exact h
          · have h := h.2 c10
            refine wp_run 7 true ((bif decide ((lg_cmp (x4.1) (v5.toInt64)) = 0) then 1438 else 1436), ([some (vs 0 0), some (vp 0 0), some (vp 31 0), some (vp 43 0), some (vp 44 0), some (vi l5), some (vi v1), some (vi v5), o8], ([], Gu (u.1 + u3.1, u.2 + u3.2) x4 m8))) rfl rfl ?_
            refine wp_if ((lg_cmp (x4.1) (v5.toInt64)) = 0) (fun c11 => ?_) (fun c11 => ?_)
            · have h := h.1 c11
              refine wp_run 1 true (2999, ([some (vs 0 0), some (vp 0 0), some (vp 31 0), some (vp 43 0), some (vp 44 0), some (vi l5), some (vi v1), some (vi v5), o8], ([], Gu (u.1 + u3.1, u.2 + u3.2) x4 m8))) rfl rfl ?_
              exact h
            · have h := h.2 c11
              refine wp_run 1 true (1437, ([some (vs 0 0), some (vp 0 0), some (vp 31 0), some (vp 43 0), some (vp 44 0), some (vi l5), some (vi v1), some (vi v5), o8], ([vi 0], Gu (u.1 + u3.1, u.2 + u3.2) x4 m8))) rfl rfl ?_
              exact wp_ret rfl h
        · have h := h.2 c9
          refine wp_run 1 true (1420, ([some (vs 0 0), some (vp 0 0), some (vp 31 0), some (vp 43 0), some (vp 44 0), some (vi l5), some (vi v1), some (vi v5), o8], ([vi 0], Gu (u.1 + u3.1, u.2 + u3.2) x4 m8))) rfl rfl ?_
          exact wp_ret rfl h
set_option maxRecDepth 100000 in
set_option maxHeartbeats 4000000 in
theorem vl_law_1441 {X : MX} {d : Nat} {x : Int64 × UInt64} {m : MI} {Q : MRes → Prop} {u : Nat × Nat} {l5 : Int32} {o6 : Option MV} {o7 : Option MV} {o8 : Option MV} (h : (inb (l5 + 1) X.1 = true ∧ Cl X d 297 [vp 0 0, vi (X.2 (l5 + 1).toNatClampNeg), vp 43 0] (Gu u x m) (fun r => ∃ (v1 : Int32) (m2 : MI) (u3 : Nat × Nat) (x4 : Int64 × UInt64), r = (.inl (some (vi v1)), Gu u3 x4 m2) ∧ (inb (l5 + 1) X.1 = true ∧ Cl X d 212 [vp 31 0, vi (X.2 (l5 + 1).toNatClampNeg)] (Gu (u.1 + u3.1, u.2 + u3.2) x4 m2) (fun r => ∃ (v5 : Int32) (m6 : MI), r = (.inl (some (vi v5)), G x4 m6) ∧ Cl X d 146 [vp 31 0] (Gu (u.1 + u3.1, u.2 + u3.2) x4 m6) (fun r => ∃ (v7 : Int32) (m8 : MI), r = (.inl (some (vi v7)), G x4 m8) ∧ ((v7 = v1 → ((¬ v1 = 0 → Wp X (d + 1) 322 (2999, ([some (vs 0 0), some (vp 0 0), some (vp 31 0), some (vp 43 0), some (vp 44 0), some (vi l5), some (vi v1), some (vi v5), o8], ([], Gu (u.1 + u3.1, u.2 + u3.2) x4 m8))) Q) ∧ (¬ (¬ v1 = 0) → (((lg_cmp (x4.1) (v5.toInt64)) = 0 → Wp X (d + 1) 322 (2999, ([some (vs 0 0), some (vp 0 0), some (vp 31 0), some (vp 43 0), some (vp 44 0), some (vi l5), some (vi v1), some (vi v5), o8], ([], Gu (u.1 + u3.1, u.2 + u3.2) x4 m8))) Q) ∧ (¬ ((lg_cmp (x4.1) (v5.toInt64)) = 0) → Q (.inl (some (vi 0)), Gu (u.1 + u3.1, u.2 + u3.2) x4 m8)))))) ∧ (¬ (v7 = v1) → Q (.inl (some (vi 0)), Gu (u.1 + u3.1, u.2 + u3.2) x4 m8))))))))) : Wp X (d + 1) 322 (1441, ([some (vs 0 0), some (vp 0 0), some (vp 31 0), some (vp 43 0), some (vp 44 0), some (vi l5), o6, o7, o8], ([], Gu u x m))) Q := by
  obtain ⟨hg1_0, h⟩ := h
  refine wp_run 7 (inb (l5 + 1) X.1 && true) (1449, ([some (vs 0 0), some (vp 0 0), some (vp 31 0), some (vp 43 0), some (vp 44 0), some (vi l5), o6, o7, o8], ([vp 43 0, vi (X.2 (l5 + 1).toNatClampNeg), vp 0 0], Gu u x m))) rfl (and_t hg1_0 rfl) ?_
  refine wp_call 297 [vp 0 0, vi (X.2 (l5 + 1).toNatClampNeg), vp 43 0] (1452, ([some (vs 0 0), some (vp 0 0), some (vp 31 0), some (vp 43 0), some (vp 44 0), some (vi l5), o6, o7, o8], ([], Gu u x m))) rfl rfl (Cl.mono h (Nat.le_refl _) ?_)
  rintro r ⟨v1, m2, u3, x4, rfl, h⟩
  · show Wp X (d + 1) 322 (1452, ([some (vs 0 0), some (vp 0 0), some (vp 31 0), some (vp 43 0), some (vp 44 0), some (vi l5), o6, o7, o8], ([vi v1], Gu (u.1 + u3.1, u.2 + u3.2) x4 m2))) Q
    obtain ⟨hg2_0, h⟩ := h
    refine wp_run 7 (inb (l5 + 1) X.1 && true) (1461, ([some (vs 0 0), some (vp 0 0), some (vp 31 0), some (vp 43 0), some (vp 44 0), some (vi l5), some (vi v1), o7, o8], ([vi (X.2 (l5 + 1).toNatClampNeg), vp 31 0], Gu (u.1 + u3.1, u.2 + u3.2) x4 m2))) rfl (and_t hg2_0 rfl) ?_
    refine wp_call 212 [vp 31 0, vi (X.2 (l5 + 1).toNatClampNeg)] (1464, ([some (vs 0 0), some (vp 0 0), some (vp 31 0), some (vp 43 0), some (vp 44 0), some (vi l5), some (vi v1), o7, o8], ([], Gu (u.1 + u3.1, u.2 + u3.2) x4 m2))) rfl rfl (Cl.mono h (Nat.le_refl _) ?_)
    rintro r ⟨v5, m6, rfl, h⟩
    · show Wp X (d + 1) 322 (1464, ([some (vs 0 0), some (vp 0 0), some (vp 31 0), some (vp 43 0), some (vp 44 0), some (vi l5), some (vi v1), o7, o8], ([vi v5], Gu (u.1 + u3.1, u.2 + u3.2) x4 m6))) Q
      refine wp_run 2 true (1467, ([some (vs 0 0), some (vp 0 0), some (vp 31 0), some (vp 43 0), some (vp 44 0), some (vi l5), some (vi v1), some (vi v5), o8], ([vp 31 0], Gu (u.1 + u3.1, u.2 + u3.2) x4 m6))) rfl rfl ?_
      refine wp_call 146 [vp 31 0] (1470, ([some (vs 0 0), some (vp 0 0), some (vp 31 0), some (vp 43 0), some (vp 44 0), some (vi l5), some (vi v1), some (vi v5), o8], ([], Gu (u.1 + u3.1, u.2 + u3.2) x4 m6))) rfl rfl (Cl.mono h (Nat.le_refl _) ?_)
      rintro r ⟨v7, m8, rfl, h⟩
      · show Wp X (d + 1) 322 (1470, ([some (vs 0 0), some (vp 0 0), some (vp 31 0), some (vp 43 0), some (vp 44 0), some (vi l5), some (vi v1), some (vi v5), o8], ([vi v7], Gu (u.1 + u3.1, u.2 + u3.2) x4 m8))) Q
        refine wp_run 2 true ((bif decide (v7 = v1) then 1477 else 1475), ([some (vs 0 0), some (vp 0 0), some (vp 31 0), some (vp 43 0), some (vp 44 0), some (vi l5), some (vi v1), some (vi v5), o8], ([], Gu (u.1 + u3.1, u.2 + u3.2) x4 m8))) rfl rfl ?_
        refine wp_if (v7 = v1) (fun c9 => ?_) (fun c9 => ?_)
        · have h := h.1 c9
          refine wp_run 2 true ((bif decide (¬ v1 = 0) then 1494 else 1482), ([some (vs 0 0), some (vp 0 0), some (vp 31 0), some (vp 43 0), some (vp 44 0), some (vi l5), some (vi v1), some (vi v5), o8], ([], Gu (u.1 + u3.1, u.2 + u3.2) x4 m8))) rfl rfl ?_
          refine wp_if (¬ v1 = 0) (fun c10 => ?_) (fun c10 => ?_)
          · have h := h.1 c10
            refine wp_run 1 true (2999, ([some (vs 0 0), some (vp 0 0), some (vp 31 0), some (vp 43 0), some (vp 44 0), some (vi l5), some (vi v1), some (vi v5), o8], ([], Gu (u.1 + u3.1, u.2 + u3.2) x4 m8))) rfl rfl ?_
            exact h
          · have h := h.2 c10
            refine wp_run 7 true ((bif decide ((lg_cmp (x4.1) (v5.toInt64)) = 0) then 1494 else 1492), ([some (vs 0 0), some (vp 0 0), some (vp 31 0), some (vp 43 0), some (vp 44 0), some (vi l5), some (vi v1), some (vi v5), o8], ([], Gu (u.1 + u3.1, u.2 + u3.2) x4 m8))) rfl rfl ?_
            refine wp_if ((lg_cmp (x4.1) (v5.toInt64)) = 0) (fun c11 => ?_) (fun c11 => ?_)
            · have h := h.1 c11
              refine wp_run 1 true (2999, ([some (vs 0 0), some (vp 0 0), some (vp 31 0), some (vp 43 0), some (vp 44 0), some (vi l5), some (vi v1), some (vi v5), o8], ([], Gu (u.1 + u3.1, u.2 + u3.2) x4 m8))) rfl rfl ?_
              exact h
            · have h := h.2 c11
              refine wp_run 1 true (1493, ([some (vs 0 0), some (vp 0 0), some (vp 31 0), some (vp 43 0), some (vp 44 0), some (vi l5), some (vi v1), some (vi v5), o8], ([vi 0], Gu (u.1 + u3.1, u.2 + u3.2) x4 m8))) rfl rfl ?_
              exact wp_ret rfl h
        · have h := h.2 c9
          refine wp_run 1 true (1476, ([some (vs 0 0), some (vp 0 0), some (vp 31 0), some (vp 43 0), some (vp 44 0), some (vi l5), some (vi v1), some (vi v5), o8], ([vi 0], Gu (u.1 + u3.1, u.2 + u3.2) x4 m8))) rfl rfl ?_
          exact wp_ret rfl h
set_option maxRecDepth 100000 in
set_option maxHeartbeats 4000000 in
theorem vl_law_1497 {X : MX} {d : Nat} {x : Int64 × UInt64} {m : MI} {Q : MRes → Prop} {u : Nat × Nat} {l5 : Int32} {o6 : Option MV} {o7 : Option MV} {o8 : Option MV} (h : (inb (l5 + 1) X.1 = true ∧ inb (l5 + 2) X.1 = true ∧ Cl X d 298 [vp 0 0, vi (X.2 (l5 + 1).toNatClampNeg), vi (X.2 (l5 + 2).toNatClampNeg), vp 43 0] (Gu u x m) (fun r => ∃ (v1 : Int32) (m2 : MI) (u3 : Nat × Nat) (x4 : Int64 × UInt64), r = (.inl (some (vi v1)), Gu u3 x4 m2) ∧ (inb (l5 + 1) X.1 = true ∧ inb (l5 + 2) X.1 = true ∧ Cl X d 214 [vp 31 0, vi (X.2 (l5 + 1).toNatClampNeg), vi (X.2 (l5 + 2).toNatClampNeg)] (Gu (u.1 + u3.1, u.2 + u3.2) x4 m2) (fun r => ∃ (v5 : Int32) (m6 : MI), r = (.inl (some (vi v5)), G x4 m6) ∧ Cl X d 146 [vp 31 0] (Gu (u.1 + u3.1, u.2 + u3.2) x4 m6) (fun r => ∃ (v7 : Int32) (m8 : MI), r = (.inl (some (vi v7)), G x4 m8) ∧ ((v7 = v1 → ((¬ v1 = 0 → Wp X (d + 1) 322 (2999, ([some (vs 0 0), some (vp 0 0), some (vp 31 0), some (vp 43 0), some (vp 44 0), some (vi l5), some (vi v1), some (vi v5), o8], ([], Gu (u.1 + u3.1, u.2 + u3.2) x4 m8))) Q) ∧ (¬ (¬ v1 = 0) → (((lg_cmp (x4.1) (v5.toInt64)) = 0 → Wp X (d + 1) 322 (2999, ([some (vs 0 0), some (vp 0 0), some (vp 31 0), some (vp 43 0), some (vp 44 0), some (vi l5), some (vi v1), some (vi v5), o8], ([], Gu (u.1 + u3.1, u.2 + u3.2) x4 m8))) Q) ∧ (¬ ((lg_cmp (x4.1) (v5.toInt64)) = 0) → Q (.inl (some (vi 0)), Gu (u.1 + u3.1, u.2 + u3.2) x4 m8)))))) ∧ (¬ (v7 = v1) → Q (.inl (some (vi 0)), Gu (u.1 + u3.1, u.2 + u3.2) x4 m8))))))))) : Wp X (d + 1) 322 (1497, ([some (vs 0 0), some (vp 0 0), some (vp 31 0), some (vp 43 0), some (vp 44 0), some (vi l5), o6, o7, o8], ([], Gu u x m))) Q := by
  obtain ⟨hg1_0, hg1_1, h⟩ := h
  refine wp_run 12 (inb (l5 + 2) X.1 && (inb (l5 + 1) X.1 && true)) (1511, ([some (vs 0 0), some (vp 0 0), some (vp 31 0), some (vp 43 0), some (vp 44 0), some (vi l5), o6, o7, o8], ([vp 43 0, vi (X.2 (l5 + 2).toNatClampNeg), vi (X.2 (l5 + 1).toNatClampNeg), vp 0 0], Gu u x m))) rfl (and_t hg1_1 (and_t hg1_0 rfl)) ?_
  refine wp_call 298 [vp 0 0, vi (X.2 (l5 + 1).toNatClampNeg), vi (X.2 (l5 + 2).toNatClampNeg), vp 43 0] (1514, ([some (vs 0 0), some (vp 0 0), some (vp 31 0), some (vp 43 0), some (vp 44 0), some (vi l5), o6, o7, o8], ([], Gu u x m))) rfl rfl (Cl.mono h (Nat.le_refl _) ?_)
  rintro r ⟨v1, m2, u3, x4, rfl, h⟩
  · show Wp X (d + 1) 322 (1514, ([some (vs 0 0), some (vp 0 0), some (vp 31 0), some (vp 43 0), some (vp 44 0), some (vi l5), o6, o7, o8], ([vi v1], Gu (u.1 + u3.1, u.2 + u3.2) x4 m2))) Q
    obtain ⟨hg2_0, hg2_1, h⟩ := h
    refine wp_run 12 (inb (l5 + 2) X.1 && (inb (l5 + 1) X.1 && true)) (1529, ([some (vs 0 0), some (vp 0 0), some (vp 31 0), some (vp 43 0), some (vp 44 0), some (vi l5), some (vi v1), o7, o8], ([vi (X.2 (l5 + 2).toNatClampNeg), vi (X.2 (l5 + 1).toNatClampNeg), vp 31 0], Gu (u.1 + u3.1, u.2 + u3.2) x4 m2))) rfl (and_t hg2_1 (and_t hg2_0 rfl)) ?_
    refine wp_call 214 [vp 31 0, vi (X.2 (l5 + 1).toNatClampNeg), vi (X.2 (l5 + 2).toNatClampNeg)] (1532, ([some (vs 0 0), some (vp 0 0), some (vp 31 0), some (vp 43 0), some (vp 44 0), some (vi l5), some (vi v1), o7, o8], ([], Gu (u.1 + u3.1, u.2 + u3.2) x4 m2))) rfl rfl (Cl.mono h (Nat.le_refl _) ?_)
    rintro r ⟨v5, m6, rfl, h⟩
    · show Wp X (d + 1) 322 (1532, ([some (vs 0 0), some (vp 0 0), some (vp 31 0), some (vp 43 0), some (vp 44 0), some (vi l5), some (vi v1), o7, o8], ([vi v5], Gu (u.1 + u3.1, u.2 + u3.2) x4 m6))) Q
      refine wp_run 2 true (1535, ([some (vs 0 0), some (vp 0 0), some (vp 31 0), some (vp 43 0), some (vp 44 0), some (vi l5), some (vi v1), some (vi v5), o8], ([vp 31 0], Gu (u.1 + u3.1, u.2 + u3.2) x4 m6))) rfl rfl ?_
      refine wp_call 146 [vp 31 0] (1538, ([some (vs 0 0), some (vp 0 0), some (vp 31 0), some (vp 43 0), some (vp 44 0), some (vi l5), some (vi v1), some (vi v5), o8], ([], Gu (u.1 + u3.1, u.2 + u3.2) x4 m6))) rfl rfl (Cl.mono h (Nat.le_refl _) ?_)
      rintro r ⟨v7, m8, rfl, h⟩
      · show Wp X (d + 1) 322 (1538, ([some (vs 0 0), some (vp 0 0), some (vp 31 0), some (vp 43 0), some (vp 44 0), some (vi l5), some (vi v1), some (vi v5), o8], ([vi v7], Gu (u.1 + u3.1, u.2 + u3.2) x4 m8))) Q
        refine wp_run 2 true ((bif decide (v7 = v1) then 1545 else 1543), ([some (vs 0 0), some (vp 0 0), some (vp 31 0), some (vp 43 0), some (vp 44 0), some (vi l5), some (vi v1), some (vi v5), o8], ([], Gu (u.1 + u3.1, u.2 + u3.2) x4 m8))) rfl rfl ?_
        refine wp_if (v7 = v1) (fun c9 => ?_) (fun c9 => ?_)
        · have h := h.1 c9
          refine wp_run 2 true ((bif decide (¬ v1 = 0) then 1562 else 1550), ([some (vs 0 0), some (vp 0 0), some (vp 31 0), some (vp 43 0), some (vp 44 0), some (vi l5), some (vi v1), some (vi v5), o8], ([], Gu (u.1 + u3.1, u.2 + u3.2) x4 m8))) rfl rfl ?_
          refine wp_if (¬ v1 = 0) (fun c10 => ?_) (fun c10 => ?_)
          · have h := h.1 c10
            refine wp_run 1 true (2999, ([some (vs 0 0), some (vp 0 0), some (vp 31 0), some (vp 43 0), some (vp 44 0), some (vi l5), some (vi v1), some (vi v5), o8], ([], Gu (u.1 + u3.1, u.2 + u3.2) x4 m8))) rfl rfl ?_
            exact h
          · have h := h.2 c10
            refine wp_run 7 true ((bif decide ((lg_cmp (x4.1) (v5.toInt64)) = 0) then 1562 else 1560), ([some (vs 0 0), some (vp 0 0), some (vp 31 0), some (vp 43 0), some (vp 44 0), some (vi l5), some (vi v1), some (vi v5), o8], ([], Gu (u.1 + u3.1, u.2 + u3.2) x4 m8))) rfl rfl ?_
            refine wp_if ((lg_cmp (x4.1) (v5.toInt64)) = 0) (fun c11 => ?_) (fun c11 => ?_)
            · have h := h.1 c11
              refine wp_run 1 true (2999, ([some (vs 0 0), some (vp 0 0), some (vp 31 0), some (vp 43 0), some (vp 44 0), some (vi l5), some (vi v1), some (vi v5), o8], ([], Gu (u.1 + u3.1, u.2 + u3.2) x4 m8))) rfl rfl ?_
              exact h
            · have h := h.2 c11
              refine wp_run 1 true (1561, ([some (vs 0 0), some (vp 0 0), some (vp 31 0), some (vp 43 0), some (vp 44 0), some (vi l5), some (vi v1), some (vi v5), o8], ([vi 0], Gu (u.1 + u3.1, u.2 + u3.2) x4 m8))) rfl rfl ?_
              exact wp_ret rfl h
        · have h := h.2 c9
          refine wp_run 1 true (1544, ([some (vs 0 0), some (vp 0 0), some (vp 31 0), some (vp 43 0), some (vp 44 0), some (vi l5), some (vi v1), some (vi v5), o8], ([vi 0], Gu (u.1 + u3.1, u.2 + u3.2) x4 m8))) rfl rfl ?_
          exact wp_ret rfl h
set_option maxRecDepth 100000 in
set_option maxHeartbeats 4000000 in
theorem vl_law_1565 {X : MX} {d : Nat} {x : Int64 × UInt64} {m : MI} {Q : MRes → Prop} {u : Nat × Nat} {l5 : Int32} {o6 : Option MV} {o7 : Option MV} {o8 : Option MV} (h : (inb (l5 + 1) X.1 = true ∧ inb (l5 + 2) X.1 = true ∧ Cl X d 299 [vp 0 0, vi (X.2 (l5 + 1).toNatClampNeg), vi (X.2 (l5 + 2).toNatClampNeg), vp 43 0] (Gu u x m) (fun r => ∃ (v1 : Int32) (m2 : MI) (u3 : Nat × Nat) (x4 : Int64 × UInt64), r = (.inl (some (vi v1)), Gu u3 x4 m2) ∧ (inb (l5 + 1) X.1 = true ∧ inb (l5 + 2) X.1 = true ∧ Cl X d 215 [vp 31 0, vi (X.2 (l5 + 1).toNatClampNeg), vi (X.2 (l5 + 2).toNatClampNeg)] (Gu (u.1 + u3.1, u.2 + u3.2) x4 m2) (fun r => ∃ (v5 : Int32) (m6 : MI), r = (.inl (some (vi v5)), G x4 m6) ∧ Cl X d 146 [vp 31 0] (Gu (u.1 + u3.1, u.2 + u3.2) x4 m6) (fun r => ∃ (v7 : Int32) (m8 : MI), r = (.inl (some (vi v7)), G x4 m8) ∧ ((v7 = v1 → ((¬ v1 = 0 → Wp X (d + 1) 322 (2999, ([some (vs 0 0), some (vp 0 0), some (vp 31 0), some (vp 43 0), some (vp 44 0), some (vi l5), some (vi v1), some (vi v5), o8], ([], Gu (u.1 + u3.1, u.2 + u3.2) x4 m8))) Q) ∧ (¬ (¬ v1 = 0) → ((v5 = 0 → (((lg_cmp (x4.1) 0) = 0 → Wp X (d + 1) 322 (2999, ([some (vs 0 0), some (vp 0 0), some (vp 31 0), some (vp 43 0), some (vp 44 0), some (vi l5), some (vi v1), some (vi v5), o8], ([], Gu (u.1 + u3.1, u.2 + u3.2) x4 m8))) Q) ∧ (¬ ((lg_cmp (x4.1) 0) = 0) → Q (.inl (some (vi 0)), Gu (u.1 + u3.1, u.2 + u3.2) x4 m8)))) ∧ (¬ (v5 = 0) → (((lg_cmp (x4.1) 1) = 0 → Wp X (d + 1) 322 (2999, ([some (vs 0 0), some (vp 0 0), some (vp 31 0), some (vp 43 0), some (vp 44 0), some (vi l5), some (vi v1), some (vi v5), o8], ([], Gu (u.1 + u3.1, u.2 + u3.2) x4 m8))) Q) ∧ (¬ ((lg_cmp (x4.1) 1) = 0) → Q (.inl (some (vi 0)), Gu (u.1 + u3.1, u.2 + u3.2) x4 m8)))))))) ∧ (¬ (v7 = v1) → Q (.inl (some (vi 0)), Gu (u.1 + u3.1, u.2 + u3.2) x4 m8))))))))) : Wp X (d + 1) 322 (1565, ([some (vs 0 0), some (vp 0 0), some (vp 31 0), some (vp 43 0), some (vp 44 0), some (vi l5), o6, o7, o8], ([], Gu u x m))) Q := by
  obtain ⟨hg1_0, hg1_1, h⟩ := h
  refine wp_run 12 (inb (l5 + 2) X.1 && (inb (l5 + 1) X.1 && true)) (1579, ([some (vs 0 0), some (vp 0 0), some (vp 31 0), some (vp 43 0), some (vp 44 0), some (vi l5), o6, o7, o8], ([vp 43 0, vi (X.2 (l5 + 2).toNatClampNeg), vi (X.2 (l5 + 1).toNatClampNeg), vp 0 0], Gu u x m))) rfl (and_t hg1_1 (and_t hg1_0 rfl)) ?_
  refine wp_call 299 [vp 0 0, vi (X.2 (l5 + 1).toNatClampNeg), vi (X.2 (l5 + 2).toNatClampNeg), vp 43 0] (1582, ([some (vs 0 0), some (vp 0 0), some (vp 31 0), some (vp 43 0), some (vp 44 0), some (vi l5), o6, o7, o8], ([], Gu u x m))) rfl rfl (Cl.mono h (Nat.le_refl _) ?_)
  rintro r ⟨v1, m2, u3, x4, rfl, h⟩
  · show Wp X (d + 1) 322 (1582, ([some (vs 0 0), some (vp 0 0), some (vp 31 0), some (vp 43 0), some (vp 44 0), some (vi l5), o6, o7, o8], ([vi v1], Gu (u.1 + u3.1, u.2 + u3.2) x4 m2))) Q
    obtain ⟨hg2_0, hg2_1, h⟩ := h
    refine wp_run 12 (inb (l5 + 2) X.1 && (inb (l5 + 1) X.1 && true)) (1597, ([some (vs 0 0), some (vp 0 0), some (vp 31 0), some (vp 43 0), some (vp 44 0), some (vi l5), some (vi v1), o7, o8], ([vi (X.2 (l5 + 2).toNatClampNeg), vi (X.2 (l5 + 1).toNatClampNeg), vp 31 0], Gu (u.1 + u3.1, u.2 + u3.2) x4 m2))) rfl (and_t hg2_1 (and_t hg2_0 rfl)) ?_
    refine wp_call 215 [vp 31 0, vi (X.2 (l5 + 1).toNatClampNeg), vi (X.2 (l5 + 2).toNatClampNeg)] (1600, ([some (vs 0 0), some (vp 0 0), some (vp 31 0), some (vp 43 0), some (vp 44 0), some (vi l5), some (vi v1), o7, o8], ([], Gu (u.1 + u3.1, u.2 + u3.2) x4 m2))) rfl rfl (Cl.mono h (Nat.le_refl _) ?_)
    rintro r ⟨v5, m6, rfl, h⟩
    · show Wp X (d + 1) 322 (1600, ([some (vs 0 0), some (vp 0 0), some (vp 31 0), some (vp 43 0), some (vp 44 0), some (vi l5), some (vi v1), o7, o8], ([vi v5], Gu (u.1 + u3.1, u.2 + u3.2) x4 m6))) Q
      refine wp_run 2 true (1603, ([some (vs 0 0), some (vp 0 0), some (vp 31 0), some (vp 43 0), some (vp 44 0), some (vi l5), some (vi v1), some (vi v5), o8], ([vp 31 0], Gu (u.1 + u3.1, u.2 + u3.2) x4 m6))) rfl rfl ?_
      refine wp_call 146 [vp 31 0] (1606, ([some (vs 0 0), some (vp 0 0), some (vp 31 0), some (vp 43 0), some (vp 44 0), some (vi l5), some (vi v1), some (vi v5), o8], ([], Gu (u.1 + u3.1, u.2 + u3.2) x4 m6))) rfl rfl (Cl.mono h (Nat.le_refl _) ?_)
      rintro r ⟨v7, m8, rfl, h⟩
      · show Wp X (d + 1) 322 (1606, ([some (vs 0 0), some (vp 0 0), some (vp 31 0), some (vp 43 0), some (vp 44 0), some (vi l5), some (vi v1), some (vi v5), o8], ([vi v7], Gu (u.1 + u3.1, u.2 + u3.2) x4 m8))) Q
        refine wp_run 2 true ((bif decide (v7 = v1) then 1613 else 1611), ([some (vs 0 0), some (vp 0 0), some (vp 31 0), some (vp 43 0), some (vp 44 0), some (vi l5), some (vi v1), some (vi v5), o8], ([], Gu (u.1 + u3.1, u.2 + u3.2) x4 m8))) rfl rfl ?_
        refine wp_if (v7 = v1) (fun c9 => ?_) (fun c9 => ?_)
        · have h := h.1 c9
          refine wp_run 2 true ((bif decide (¬ v1 = 0) then 1637 else 1618), ([some (vs 0 0), some (vp 0 0), some (vp 31 0), some (vp 43 0), some (vp 44 0), some (vi l5), some (vi v1), some (vi v5), o8], ([], Gu (u.1 + u3.1, u.2 + u3.2) x4 m8))) rfl rfl ?_
          refine wp_if (¬ v1 = 0) (fun c10 => ?_) (fun c10 => ?_)
          · have h := h.1 c10
            refine wp_run 1 true (2999, ([some (vs 0 0), some (vp 0 0), some (vp 31 0), some (vp 43 0), some (vp 44 0), some (vi l5), some (vi v1), some (vi v5), o8], ([], Gu (u.1 + u3.1, u.2 + u3.2) x4 m8))) rfl rfl ?_
            exact h
          · have h := h.2 c10
            refine wp_run 5 true ((bif decide (v5 = 0) then 1630 else 1626), ([some (vs 0 0), some (vp 0 0), some (vp 31 0), some (vp 43 0), some (vp 44 0), some (vi l5), some (vi v1), some (vi v5), o8], ([vx (.long (x4.1))], Gu (u.1 + u3.1, u.2 + u3.2) x4 m8))) rfl rfl ?_
            refine wp_if (v5 = 0) (fun c11 => ?_) (fun c11 => ?_)
            · have h := h.1 c11
              refine wp_run 3 true ((bif decide ((lg_cmp (x4.1) 0) = 0) then 1637 else 1635), ([some (vs 0 0), some (vp 0 0), some (vp 31 0), some (vp 43 0), some (vp 44 0), some (vi l5), some (vi v1), some (vi v5), o8], ([], Gu (u.1 + u3.1, u.2 + u3.2) x4 m8))) rfl rfl ?_
              refine wp_if ((lg_cmp (x4.1) 0) = 0) (fun c12 => ?_) (fun c12 => ?_)
              · have h := h.1 c12
                refine wp_run 1 true (2999, ([some (vs 0 0), some (vp 0 0), some (vp 31 0), some (vp 43 0), some (vp 44 0), some (vi l5), some (vi v1), some (vi v5), o8], ([], Gu (u.1 + u3.1, u.2 + u3.2) x4 m8))) rfl rfl ?_
                exact h
              · have h := h.2 c12
                refine wp_run 1 true (1636, ([some (vs 0 0), some (vp 0 0), some (vp 31 0), some (vp 43 0), some (vp 44 0), some (vi l5), some (vi v1), some (vi v5), o8], ([vi 0], Gu (u.1 + u3.1, u.2 + u3.2) x4 m8))) rfl rfl ?_
                exact wp_ret rfl h
            · have h := h.2 c11
              refine wp_run 4 true ((bif decide ((lg_cmp (x4.1) 1) = 0) then 1637 else 1635), ([some (vs 0 0), some (vp 0 0), some (vp 31 0), some (vp 43 0), some (vp 44 0), some (vi l5), some (vi v1), some (vi v5), o8], ([], Gu (u.1 + u3.1, u.2 + u3.2) x4 m8))) rfl rfl ?_
              refine wp_if ((lg_cmp (x4.1) 1) = 0) (fun c13 => ?_) (fun c13 => ?_)
              · have h := h.1 c13
                refine wp_run 1 true (2999, ([some (vs 0 0), some (vp 0 0), some (vp 31 0), some (vp 43 0), some (vp 44 0), some (vi l5), some (vi v1), some (vi v5), o8], ([], Gu (u.1 + u3.1, u.2 + u3.2) x4 m8))) rfl rfl ?_
                exact h
              · have h := h.2 c13
                refine wp_run 1 true (1636, ([some (vs 0 0), some (vp 0 0), some (vp 31 0), some (vp 43 0), some (vp 44 0), some (vi l5), some (vi v1), some (vi v5), o8], ([vi 0], Gu (u.1 + u3.1, u.2 + u3.2) x4 m8))) rfl rfl ?_
                exact wp_ret rfl h
        · have h := h.2 c9
          refine wp_run 1 true (1612, ([some (vs 0 0), some (vp 0 0), some (vp 31 0), some (vp 43 0), some (vp 44 0), some (vi l5), some (vi v1), some (vi v5), o8], ([vi 0], Gu (u.1 + u3.1, u.2 + u3.2) x4 m8))) rfl rfl ?_
          exact wp_ret rfl h
set_option maxRecDepth 100000 in
set_option maxHeartbeats 4000000 in
theorem vl_law_1640 {X : MX} {d : Nat} {x : Int64 × UInt64} {m : MI} {Q : MRes → Prop} {u : Nat × Nat} {l5 : Int32} {o6 : Option MV} {o7 : Option MV} {o8 : Option MV} (h : (inb (l5 + 1) X.1 = true ∧ Cl X d 300 [vp 0 0, vi (X.2 (l5 + 1).toNatClampNeg), vp 43 0] (Gu u x m) (fun r => ∃ (v1 : Int32) (m2 : MI) (u3 : Nat × Nat) (x4 : Int64 × UInt64), r = (.inl (some (vi v1)), Gu u3 x4 m2) ∧ (inb (l5 + 1) X.1 = true ∧ Cl X d 216 [vp 31 0, vi (X.2 (l5 + 1).toNatClampNeg)] (Gu (u.1 + u3.1, u.2 + u3.2) x4 m2) (fun r => ∃ (v5 : Int32) (m6 : MI), r = (.inl (some (vi v5)), G x4 m6) ∧ Cl X d 146 [vp 31 0] (Gu (u.1 + u3.1, u.2 + u3.2) x4 m6) (fun r => ∃ (v7 : Int32) (m8 : MI), r = (.inl (some (vi v7)), G x4 m8) ∧ ((v7 = v1 → ((¬ v1 = 0 → Wp X (d + 1) 322 (2999, ([some (vs 0 0), some (vp 0 0), some (vp 31 0), some (vp 43 0), some (vp 44 0), some (vi l5), some (vi v1), some (vi v5), o8], ([], Gu (u.1 + u3.1, u.2 + u3.2) x4 m8))) Q) ∧ (¬ (¬ v1 = 0) → (((lg_cmp (x4.1) (v5.toInt64)) = 0 → Wp X (d + 1) 322 (2999, ([some (vs 0 0), some (vp 0 0), some (vp 31 0), some (vp 43 0), some (vp 44 0), some (vi l5), some (vi v1), some (vi v5), o8], ([], Gu (u.1 + u3.1, u.2 + u3.2) x4 m8))) Q) ∧ (¬ ((lg_cmp (x4.1) (v5.toInt64)) = 0) → Q (.inl (some (vi 0)), Gu (u.1 + u3.1, u.2 + u3.2) x4 m8)))))) ∧ (¬ (v7 = v1) → Q (.inl (some (vi 0)), Gu (u.1 + u3.1, u.2 + u3.2) x4 m8))))))))) : Wp X (d + 1) 322 (1640, ([some (vs 0 0), some (vp 0 0), some (vp 31 0), some (vp 43 0), some (vp 44 0), some (vi l5), o6, o7, o8], ([], Gu u x m))) Q := by
  obtain ⟨hg1_0, h⟩ := h
  refine wp_run 7 (inb (l5 + 1) X.1 && true) (1648, ([some (vs 0 0), some (vp 0 0), some (vp 31 0), some (vp 43 0), some (vp 44 0), some (vi l5), o6, o7, o8], ([vp 43 0, vi (X.2 (l5 + 1).toNatClampNeg), vp 0 0], Gu u x m))) rfl (and_t hg1_0 rfl) ?_
  refine wp_call 300 [vp 0 0, vi (X.2 (l5 + 1).toNatClampNeg), vp 43 0] (1651, ([some (vs 0 0), some (vp 0 0), some (vp 31 0), some (vp 43 0), some (vp 44 0), some (vi l5), o6, o7, o8], ([], Gu u x m))) rfl rfl (Cl.mono h (Nat.le_refl _) ?_)
  rintro r ⟨v1, m2, u3, x4, rfl, h⟩
  · show Wp X (d + 1) 322 (1651, ([some (vs 0 0), some (vp 0 0), some (vp 31 0), some (vp 43 0), some (vp 44 0), some (vi l5), o6, o7, o8], ([vi v1], Gu (u.1 + u3.1, u.2 + u3.2) x4 m2))) Q
    obtain ⟨hg2_0, h⟩ := h
    refine wp_run 7 (inb (l5 + 1) X.1 && true) (1660, ([some (vs 0 0), some (vp 0 0), some (vp 31 0), some (vp 43 0), some (vp 44 0), some (vi l5), some (vi v1), o7, o8], ([vi (X.2 (l5 + 1).toNatClampNeg), vp 31 0], Gu (u.1 + u3.1, u.2 + u3.2) x4 m2))) rfl (and_t hg2_0 rfl) ?_
    refine wp_call 216 [vp 31 0, vi (X.2 (l5 + 1).toNatClampNeg)] (1663, ([some (vs 0 0), some (vp 0 0), some (vp 31 0), some (vp 43 0), some (vp 44 0), some (vi l5), some (vi v1), o7, o8], ([], Gu (u.1 + u3.1, u.2 + u3.2) x4 m2))) rfl rfl (Cl.mono h (Nat.le_refl _) ?_)
    rintro r ⟨v5, m6, rfl, h⟩
    · show Wp X (d + 1) 322 (1663, ([some (vs 0 0), some (vp 0 0), some (vp 31 0), some (vp 43 0), some (vp 44 0), some (vi l5), some (vi v1), o7, o8], ([vi v5], Gu (u.1 + u3.1, u.2 + u3.2) x4 m6))) Q
      refine wp_run 2 true (1666, ([some (vs 0 0), some (vp 0 0), some (vp 31 0), some (vp 43 0), some (vp 44 0), some (vi l5), some (vi v1), some (vi v5), o8], ([vp 31 0], Gu (u.1 + u3.1, u.2 + u3.2) x4 m6))) rfl rfl ?_
      refine wp_call 146 [vp 31 0] (1669, ([some (vs 0 0), some (vp 0 0), some (vp 31 0), some (vp 43 0), some (vp 44 0), some (vi l5), some (vi v1), some (vi v5), o8], ([], Gu (u.1 + u3.1, u.2 + u3.2) x4 m6))) rfl rfl (Cl.mono h (Nat.le_refl _) ?_)
      rintro r ⟨v7, m8, rfl, h⟩
      · show Wp X (d + 1) 322 (1669, ([some (vs 0 0), some (vp 0 0), some (vp 31 0), some (vp 43 0), some (vp 44 0), some (vi l5), some (vi v1), some (vi v5), o8], ([vi v7], Gu (u.1 + u3.1, u.2 + u3.2) x4 m8))) Q
        refine wp_run 2 true ((bif decide (v7 = v1) then 1676 else 1674), ([some (vs 0 0), some (vp 0 0), some (vp 31 0), some (vp 43 0), some (vp 44 0), some (vi l5), some (vi v1), some (vi v5), o8], ([], Gu (u.1 + u3.1, u.2 + u3.2) x4 m8))) rfl rfl ?_
        refine wp_if (v7 = v1) (fun c9 => ?_) (fun c9 => ?_)
        · have h := h.1 c9
          refine wp_run 2 true ((bif decide (¬ v1 = 0) then 1693 else 1681), ([some (vs 0 0), some (vp 0 0), some (vp 31 0), some (vp 43 0), some (vp 44 0), some (vi l5), some (vi v1), some (vi v5), o8], ([], Gu (u.1 + u3.1, u.2 + u3.2) x4 m8))) rfl rfl ?_
          refine wp_if (¬ v1 = 0) (fun c10 => ?_) (fun c10 => ?_)
          · have h := h.1 c10
            refine wp_run 1 true (2999, ([some (vs 0 0), some (vp 0 0), some (vp 31 0), some (vp 43 0), some (vp 44 0), some (vi l5), some (vi v1), some (vi v5), o8], ([], Gu (u.1 + u3.1, u.2 + u3.2) x4 m8))) rfl rfl ?_
            exact h
          · have h := h.2 c10
            refine wp_run 7 true ((bif decide ((lg_cmp (x4.1) (v5.toInt64)) = 0) then 1693 else 1691), ([some (vs 0 0), some (vp 0 0), some (vp 31 0), some (vp 43 0), some (vp 44 0), some (vi l5), some (vi v1), some (vi v5), o8], ([], Gu (u.1 + u3.1, u.2 + u3.2) x4 m8))) rfl rfl ?_
            refine wp_if ((lg_cmp (x4.1) (v5.toInt64)) = 0) (fun c11 => ?_) (fun c11 => ?_)
            · have h := h.1 c11
              refine wp_run 1 true (2999, ([some (vs 0 0), some (vp 0 0), some (vp 31 0), some (vp 43 0), some (vp 44 0), some (vi l5), some (vi v1), some (vi v5), o8], ([], Gu (u.1 + u3.1, u.2 + u3.2) x4 m8))) rfl rfl ?_
              exact h
            · have h := h.2 c11
              refine wp_run 1 true (1692, ([some (vs 0 0), some (vp 0 0), some (vp 31 0), some (vp 43 0), some (vp 44 0), some (vi l5), some (vi v1), some (vi v5), o8], ([vi 0], Gu (u.1 + u3.1, u.2 + u3.2) x4 m8))) rfl rfl ?_
              exact wp_ret rfl h
        · have h := h.2 c9
          refine wp_run 1 true (1675, ([some (vs 0 0), some (vp 0 0), some (vp 31 0), some (vp 43 0), some (vp 44 0), some (vi l5), some (vi v1), some (vi v5), o8], ([vi 0], Gu (u.1 + u3.1, u.2 + u3.2) x4 m8))) rfl rfl ?_
          exact wp_ret rfl h
set_option maxRecDepth 100000 in
set_option maxHeartbeats 4000000 in
theorem vl_law_1696 {X : MX} {d : Nat} {x : Int64 × UInt64} {m : MI} {Q : MRes → Prop} {u : Nat × Nat} {l5 : Int32} {o6 : Option MV} {o7 : Option MV} {o8 : Option MV} (h : (inb (l5 + 1) X.1 = true ∧ inb (l5 + 2) X.1 = true ∧ Cl X d 301 [vp 0 0, vi (X.2 (l5 + 1).toNatClampNeg), vi (X.2 (l5 + 2).toNatClampNeg), vp 43 0] (Gu u x m) (fun r => ∃ (v1 : Int32) (m2 : MI) (u3 : Nat × Nat) (x4 : Int64 × UInt64), r = (.inl (some (vi v1)), Gu u3 x4 m2) ∧ (inb (l5 + 1) X.1 = true ∧ inb (l5 + 2) X.1 = true ∧ Cl X d 217 [vp 31 0, vi (X.2 (l5 + 1).toNatClampNeg), vi (X.2 (l5 + 2).toNatClampNeg)] (Gu (u.1 + u3.1, u.2 + u3.2) x4 m2) (fun r => ∃ (v5 : Int32) (m6 : MI), r = (.inl (some (vi v5)), G x4 m6) ∧ Cl X d 146 [vp 31 0] (Gu (u.1 + u3.1, u.2 + u3.2) x4 m6) (fun r => ∃ (v7 : Int32) (m8 : MI), r = (.inl (some (vi v7)), G x4 m8) ∧ ((v7 = v1 → ((¬ v1 = 0 → Wp X (d + 1) 322 (2999, ([some (vs 0 0), some (vp 0 0), some (vp 31 0), some (vp 43 0), some (vp 44 0), some (vi l5), some (vi v1), some (vi v5), o8], ([], Gu (u.1 + u3.1, u.2 + u3.2) x4 m8))) Q) ∧ (¬ (¬ v1 = 0) → (((lg_cmp (x4.1) (v5.toInt64)) = 0 → Wp X (d + 1) 322 (2999, ([some (vs 0 0), some (vp 0 0), some (vp 31 0), some (vp 43 0), some (vp 44 0), some (vi l5), some (vi v1), some (vi v5), o8], ([], Gu (u.1 + u3.1, u.2 + u3.2) x4 m8))) Q) ∧ (¬ ((lg_cmp (x4.1) (v5.toInt64)) = 0) → Q (.inl (some (vi 0)), Gu (u.1 + u3.1, u.2 + u3.2) x4 m8)))))) ∧ (¬ (v7 = v1) → Q (.inl (some (vi 0)), Gu (u.1 + u3.1, u.2 + u3.2) x4 m8))))))))) : Wp X (d + 1) 322 (1696, ([some (vs 0 0), some (vp 0 0), some (vp 31 0), some (vp 43 0), some (vp 44 0), some (vi l5), o6, o7, o8], ([], Gu u x m))) Q := by
  obtain ⟨hg1_0, hg1_1, h⟩ := h
  refine wp_run 12 (inb (l5 + 2) X.1 && (inb (l5 + 1) X.1 && true)) (1710, ([some (vs 0 0), some (vp 0 0), some (vp 31 0), some (vp 43 0), some (vp 44 0), some (vi l5), o6, o7, o8], ([vp 43 0, vi (X.2 (l5 + 2).toNatClampNeg), vi (X.2 (l5 + 1).toNatClampNeg), vp 0 0], Gu u x m))) rfl (and_t hg1_1 (and_t hg1_0 rfl)) ?_
  refine wp_call 301 [vp 0 0, vi (X.2 (l5 + 1).toNatClampNeg), vi (X.2 (l5 + 2).toNatClampNeg), vp 43 0] (1713, ([some (vs 0 0), some (vp 0 0), some (vp 31 0), some (vp 43 0), some (vp 44 0), some (vi l5), o6, o7, o8], ([], Gu u x m))) rfl rfl (Cl.mono h (Nat.le_refl _) ?_)
  rintro r ⟨v1, m2, u3, x4, rfl, h⟩
  · show Wp X (d + 1) 322 (1713, ([some (vs 0 0), some (vp 0 0), some (vp 31 0), some (vp 43 0), some (vp 44 0), some (vi l5), o6, o7, o8], ([vi v1], Gu (u.1 + u3.1, u.2 + u3.2) x4 m2))) Q
    obtain ⟨hg2_0, hg2_1, h⟩ := h
    refine wp_run 12 (inb (l5 + 2) X.1 && (inb (l5 + 1) X.1 && true)) (1728, ([some (vs 0 0), some (vp 0 0), some (vp 31 0), some (vp 43 0), some (vp 44 0), some (vi l5), some (vi v1), o7, o8], ([vi (X.2 (l5 + 2).toNatClampNeg), vi (X.2 (l5 + 1).toNatClampNeg), vp 31 0], Gu (u.1 + u3.1, u.2 + u3.2) x4 m2))) rfl (and_t hg2_1 (and_t hg2_0 rfl)) ?_
    refine wp_call 217 [vp 31 0, vi (X.2 (l5 + 1).toNatClampNeg), vi (X.2 (l5 + 2).toNatClampNeg)] (1731, ([some (vs 0 0), some (vp 0 0), some (vp 31 0), some (vp 43 0), some (vp 44 0), some (vi l5), some (vi v1), o7, o8], ([], Gu (u.1 + u3.1, u.2 + u3.2) x4 m2))) rfl rfl (Cl.mono h (Nat.le_refl _) ?_)
    rintro r ⟨v5, m6, rfl, h⟩
    · show Wp X (d + 1) 322 (1731, ([some (vs 0 0), some (vp 0 0), some (vp 31 0), some (vp 43 0), some (vp 44 0), some (vi l5), some (vi v1), o7, o8], ([vi v5], Gu (u.1 + u3.1, u.2 + u3.2) x4 m6))) Q
      refine wp_run 2 true (1734, ([some (vs 0 0), some (vp 0 0), some (vp 31 0), some (vp 43 0), some (vp 44 0), some (vi l5), some (vi v1), some (vi v5), o8], ([vp 31 0], Gu (u.1 + u3.1, u.2 + u3.2) x4 m6))) rfl rfl ?_
      refine wp_call 146 [vp 31 0] (1737, ([some (vs 0 0), some (vp 0 0), some (vp 31 0), some (vp 43 0), some (vp 44 0), some (vi l5), some (vi v1), some (vi v5), o8], ([], Gu (u.1 + u3.1, u.2 + u3.2) x4 m6))) rfl rfl (Cl.mono h (Nat.le_refl _) ?_)
      rintro r ⟨v7, m8, rfl, h⟩
      · show Wp X (d + 1) 322 (1737, ([some (vs 0 0), some (vp 0 0), some (vp 31 0), some (vp 43 0), some (vp 44 0), some (vi l5), some (vi v1), some (vi v5), o8], ([vi v7], Gu (u.1 + u3.1, u.2 + u3.2) x4 m8))) Q
        refine wp_run 2 true ((bif decide (v7 = v1) then 1744 else 1742), ([some (vs 0 0), some (vp 0 0), some (vp 31 0), some (vp 43 0), some (vp 44 0), some (vi l5), some (vi v1), some (vi v5), o8], ([], Gu (u.1 + u3.1, u.2 + u3.2) x4 m8))) rfl rfl ?_
        refine wp_if (v7 = v1) (fun c9 => ?_) (fun c9 => ?_)
        · have h := h.1 c9
          refine wp_run 2 true ((bif decide (¬ v1 = 0) then 1761 else 1749), ([some (vs 0 0), some (vp 0 0), some (vp 31 0), some (vp 43 0), some (vp 44 0), some (vi l5), some (vi v1), some (vi v5), o8], ([], Gu (u.1 + u3.1, u.2 + u3.2) x4 m8))) rfl rfl ?_
          refine wp_if (¬ v1 = 0) (fun c10 => ?_) (fun c10 => ?_)
          · have h := h.1 c10
            refine wp_run 1 true (2999, ([some (vs 0 0), some (vp 0 0), some (vp 31 0), some (vp 43 0), some (vp 44 0), some (vi l5), some (vi v1), some (vi v5), o8], ([], Gu (u.1 + u3.1, u.2 + u3.2) x4 m8))) rfl rfl ?_
            exact h
          · have h := h.2 c10
            refine wp_run 7 true ((bif decide ((lg_cmp (x4.1) (v5.toInt64)) = 0) then 1761 else 1759), ([some (vs 0 0), some (vp 0 0), some (vp 31 0), some (vp 43 0), some (vp 44 0), some (vi l5), some (vi v1), some (vi v5), o8], ([], Gu (u.1 + u3.1, u.2 + u3.2) x4 m8))) rfl rfl ?_
            refine wp_if ((lg_cmp (x4.1) (v5.toInt64)) = 0) (fun c11 => ?_) (fun c11 => ?_)
            · have h := h.1 c11
              refine wp_run 1 true (2999, ([some (vs 0 0), some (vp 0 0), some (vp 31 0), some (vp 43 0), some (vp 44 0), some (vi l5), some (vi v1), some (vi v5), o8], ([], Gu (u.1 + u3.1, u.2 + u3.2) x4 m8))) rfl rfl ?_
              exact h
            · have h := h.2 c11
              refine wp_run 1 true (1760, ([some (vs 0 0), some (vp 0 0), some (vp 31 0), some (vp 43 0), some (vp 44 0), some (vi l5), some (vi v1), some (vi v5), o8], ([vi 0], Gu (u.1 + u3.1, u.2 + u3.2) x4 m8))) rfl rfl ?_
              exact wp_ret rfl h
        · have h := h.2 c9
          refine wp_run 1 true (1743, ([some (vs 0 0), some (vp 0 0), some (vp 31 0), some (vp 43 0), some (vp 44 0), some (vi l5), some (vi v1), some (vi v5), o8], ([vi 0], Gu (u.1 + u3.1, u.2 + u3.2) x4 m8))) rfl rfl ?_
          exact wp_ret rfl h
set_option maxRecDepth 100000 in
set_option maxHeartbeats 4000000 in
theorem vl_law_1764 {X : MX} {d : Nat} {x : Int64 × UInt64} {m : MI} {Q : MRes → Prop} {u : Nat × Nat} {l5 : Int32} {o6 : Option MV} {o7 : Option MV} {o8 : Option MV} (h : (inb (l5 + 1) X.1 = true ∧ inb (l5 + 2) X.1 = true ∧ inb (l5 + 3) X.1 = true ∧ Cl X d 302 [vp 0 0, vi (X.2 (l5 + 1).toNatClampNeg), vi (X.2 (l5 + 2).toNatClampNeg), vi (X.2 (l5 + 3).toNatClampNeg), vp 43 0] (Gu u x m) (fun r => ∃ (v1 : Int32) (m2 : MI) (u3 : Nat × Nat) (x4 : Int64 × UInt64), r = (.inl (some (vi v1)), Gu u3 x4 m2) ∧ (inb (l5 + 1) X.1 = true ∧ inb (l5 + 2) X.1 = true ∧ inb (l5 + 3) X.1 = true ∧ Cl X d 220 [vp 31 0, vi (X.2 (l5 + 1).toNatClampNeg), vi (X.2 (l5 + 2).toNatClampNeg), vi (X.2 (l5 + 3).toNatClampNeg)] (Gu (u.1 + u3.1, u.2 + u3.2) x4 m2) (fun r => ∃ (v5 : Int32) (m6 : MI), r = (.inl (some (vi v5)), G x4 m6) ∧ Cl X d 146 [vp 31 0] (Gu (u.1 + u3.1, u.2 + u3.2) x4 m6) (fun r => ∃ (v7 : Int32) (m8 : MI), r = (.inl (some (vi v7)), G x4 m8) ∧ ((v7 = v1 → ((¬ v1 = 0 → Wp X (d + 1) 322 (2999, ([some (vs 0 0), some (vp 0 0), some (vp 31 0), some (vp 43 0), some (vp 44 0), some (vi l5), some (vi v1), some (vi v5), o8], ([], Gu (u.1 + u3.1, u.2 + u3.2) x4 m8))) Q) ∧ (¬ (¬ v1 = 0) → (((lg_cmp (x4.1) (v5.toInt64)) = 0 → Wp X (d + 1) 322 (2999, ([some (vs 0 0), some (vp 0 0), some (vp 31 0), some (vp 43 0), some (vp 44 0), some (vi l5), some (vi v1), some (vi v5), o8], ([], Gu (u.1 + u3.1, u.2 + u3.2) x4 m8))) Q) ∧ (¬ ((lg_cmp (x4.1) (v5.toInt64)) = 0) → Q (.inl (some (vi 0)), Gu (u.1 + u3.1, u.2 + u3.2) x4 m8)))))) ∧ (¬ (v7 = v1) → Q (.inl (some (vi 0)), Gu (u.1 + u3.1, u.2 + u3.2) x4 m8))))))))) : Wp X (d + 1) 322 (1764, ([some (vs 0 0), some (vp 0 0), some (vp 31 0), some (vp 43 0), some (vp 44 0), some (vi l5), o6, o7, o8], ([], Gu u x m))) Q := by
  obtain ⟨hg1_0, hg1_1, hg1_2, h⟩ := h
  refine wp_run 17 (inb (l5 + 3) X.1 && (inb (l5 + 2) X.1 && (inb (l5 + 1) X.1 && true))) (1784, ([some (vs 0 0), some (vp 0 0), some (vp 31 0), some (vp 43 0), some (vp 44 0), some (vi l5), o6, o7, o8], ([vp 43 0, vi (X.2 (l5 + 3).toNatClampNeg), vi (X.2 (l5 + 2).toNatClampNeg), vi (X.2 (l5 + 1).toNatClampNeg), vp 0 0], Gu u x m))) rfl (and_t hg1_2 (and_t hg1_1 (and_t hg1_0 rfl))) ?_
  refine wp_call 302 [vp 0 0, vi (X.2 (l5 + 1).toNatClampNeg), vi (X.2 (l5 + 2).toNatClampNeg), vi (X.2 (l5 + 3).toNatClampNeg), vp 43 0] (1787, ([some (vs 0 0), some (vp 0 0), some (vp 31 0), some (vp 43 0), some (vp 44 0), some (vi l5), o6, o7, o8], ([], Gu u x m))) rfl rfl (Cl.mono h (Nat.le_refl _) ?_)
  rintro r ⟨v1, m2, u3, x4, rfl, h⟩
  · show Wp X (d + 1) 322 (1787, ([some (vs 0 0), some (vp 0 0), some (vp 31 0), some (vp 43 0), some (vp 44 0), some (vi l5), o6, o7, o8], ([vi v1], Gu (u.1 + u3.1, u.2 + u3.2) x4 m2))) Q
    obtain ⟨hg2_0, hg2_1, hg2_2, h⟩ := h
    refine wp_run 17 (inb (l5 + 3) X.1 && (inb (l5 + 2) X.1 && (inb (l5 + 1) X.1 && true))) (1808, ([some (vs 0 0), some (vp 0 0), some (vp 31 0), some (vp 43 0), some (vp 44 0), some (vi l5), some (vi v1), o7, o8], ([vi (X.2 (l5 + 3).toNatClampNeg), vi (X.2 (l5 + 2).toNatClampNeg), vi (X.2 (l5 + 1).toNatClampNeg), vp 31 0], Gu (u.1 + u3.1, u.2 + u3.2) x4 m2))) rfl (and_t hg2_2 (and_t hg2_1 (and_t hg2_0 rfl))) ?_
    refine wp_call 220 [vp 31 0, vi (X.2 (l5 + 1).toNatClampNeg), vi (X.2 (l5 + 2).toNatClampNeg), vi (X.2 (l5 + 3).toNatClampNeg)] (1811, ([some (vs 0 0), some (vp 0 0), some (vp 31 0), some (vp 43 0), some (vp 44 0), some (vi l5), some (vi v1), o7, o8], ([], Gu (u.1 + u3.1, u.2 + u3.2) x4 m2))) rfl rfl (Cl.mono h (Nat.le_refl _) ?_)
    rintro r ⟨v5, m6, rfl, h⟩
    · show Wp X (d + 1) 322 (1811, ([some (vs 0 0), some (vp 0 0), some (vp 31 0), some (vp 43 0), some (vp 44 0), some (vi l5), some (vi v1), o7, o8], ([vi v5], Gu (u.1 + u3.1, u.2 + u3.2) x4 m6))) Q
      refine wp_run 2 true (1814, ([some (vs 0 0), some (vp 0 0), some (vp 31 0), some (vp 43 0), some (vp 44 0), some (vi l5), some (vi v1), some (vi v5), o8], ([vp 31 0], Gu (u.1 + u3.1, u.2 + u3.2) x4 m6))) rfl rfl ?_
      refine wp_call 146 [vp 31 0] (1817, ([some (vs 0 0), some (vp 0 0), some (vp 31 0), some (vp 43 0), some (vp 44 0), some (vi l5), some (vi v1), some (vi v5), o8], ([], Gu (u.1 + u3.1, u.2 + u3.2) x4 m6))) rfl rfl (Cl.mono h (Nat.le_refl _) ?_)
      rintro r ⟨v7, m8, rfl, h⟩
      · show Wp X (d + 1) 322 (1817, ([some (vs 0 0), some (vp 0 0), some (vp 31 0), some (vp 43 0), some (vp 44 0), some (vi l5), some (vi v1), some (vi v5), o8], ([vi v7], Gu (u.1 + u3.1, u.2 + u3.2) x4 m8))) Q
        refine wp_run 2 true ((bif decide (v7 = v1) then 1824 else 1822), ([some (vs 0 0), some (vp 0 0), some (vp 31 0), some (vp 43 0), some (vp 44 0), some (vi l5), some (vi v1), some (vi v5), o8], ([], Gu (u.1 + u3.1, u.2 + u3.2) x4 m8))) rfl rfl ?_
        refine wp_if (v7 = v1) (fun c9 => ?_) (fun c9 => ?_)
        · have h := h.1 c9
          refine wp_run 2 true ((bif decide (¬ v1 = 0) then 1841 else 1829), ([some (vs 0 0), some (vp 0 0), some (vp 31 0), some (vp 43 0), some (vp 44 0), some (vi l5), some (vi v1), some (vi v5), o8], ([], Gu (u.1 + u3.1, u.2 + u3.2) x4 m8))) rfl rfl ?_
          refine wp_if (¬ v1 = 0) (fun c10 => ?_) (fun c10 => ?_)
          · have h := h.1 c10
            refine wp_run 1 true (2999, ([some (vs 0 0), some (vp 0 0), some (vp 31 0), some (vp 43 0), some (vp 44 0), some (vi l5), some (vi v1), some (vi v5), o8], ([], Gu (u.1 + u3.1, u.2 + u3.2) x4 m8))) rfl rfl ?_
            exact h
          · have h := h.2 c10
            refine wp_run 7 true ((bif decide ((lg_cmp (x4.1) (v5.toInt64)) = 0) then 1841 else 1839), ([some (vs 0 0), some (vp 0 0), some (vp 31 0), some (vp 43 0), some (vp 44 0), some (vi l5), some (vi v1), some (vi v5), o8], ([], Gu (u.1 + u3.1, u.2 + u3.2) x4 m8))) rfl rfl ?_
            refine wp_if ((lg_cmp (x4.1) (v5.toInt64)) = 0) (fun c11 => ?_) (fun c11 => ?_)
            · have h := h.1 c11
              refine wp_run 1 true (2999, ([some (vs 0 0), some (vp 0 0), some (vp 31 0), some (vp 43 0), some (vp 44 0), some (vi l5), some (vi v1), some (vi v5), o8], ([], Gu (u.1 + u3.1, u.2 + u3.2) x4 m8))) rfl rfl ?_
              exact h
            · have h := h.2 c11
              refine wp_run 1 true (1840, ([some (vs 0 0), some (vp 0 0), some (vp 31 0), some (vp 43 0), some (vp 44 0), some (vi l5), some (vi v1), some (vi v5), o8], ([vi 0], Gu (u.1 + u3.1, u.2 + u3.2) x4 m8))) rfl rfl ?_
              exact wp_ret rfl h
        · have h := h.2 c9
          refine wp_run 1 true (1823, ([some (vs 0 0), some (vp 0 0), some (vp 31 0), some (vp 43 0), some (vp 44 0), some (vi l5), some (vi v1), some (vi v5), o8], ([vi 0], Gu (u.1 + u3.1, u.2 + u3.2) x4 m8))) rfl rfl ?_
          exact wp_ret rfl h
set_option maxRecDepth 100000 in
set_option maxHeartbeats 4000000 in
theorem vl_law_1844 {X : MX} {d : Nat} {x : Int64 × UInt64} {m : MI} {Q : MRes → Prop} {u : Nat × Nat} {l5 : Int32} {o6 : Option MV} {o7 : Option MV} {o8 : Option MV} (h : (inb (l5 + 1) X.1 = true ∧ inb (l5 + 2) X.1 = true ∧ inb (l5 + 3) X.1 = true ∧ Cl X d 303 [vp 0 0, vi (X.2 (l5 + 1).toNatClampNeg), vi (X.2 (l5 + 2).toNatClampNeg), vi (X.2 (l5 + 3).toNatClampNeg), vp 43 0] (Gu u x m) (fun r => ∃ (v1 : Int32) (m2 : MI) (u3 : Nat × Nat) (x4 : Int64 × UInt64), r = (.inl (some (vi v1)), Gu u3 x4 m2) ∧ (inb (l5 + 1) X.1 = true ∧ inb (l5 + 2) X.1 = true ∧ inb (l5 + 3) X.1 = true ∧ Cl X d 221 [vp 31 0, vi (X.2 (l5 + 1).toNatClampNeg), vi (X.2 (l5 + 2).toNatClampNeg), vi (X.2 (l5 + 3).toNatClampNeg)] (Gu (u.1 + u3.1, u.2 + u3.2) x4 m2) (fun r => ∃ (v5 : Int32) (m6 : MI), r = (.inl (some (vi v5)), G x4 m6) ∧ Cl X d 146 [vp 31 0] (Gu (u.1 + u3.1, u.2 + u3.2) x4 m6) (fun r => ∃ (v7 : Int32) (m8 : MI), r = (.inl (some (vi v7)), G x4 m8) ∧ ((v7 = v1 → ((¬ v1 = 0 → Wp X (d + 1) 322 (2999, ([some (vs 0 0), some (vp 0 0), some (vp 31 0), some (vp 43 0), some (vp 44 0), some (vi l5), some (vi v1), some (vi v5), o8], ([], Gu (u.1 + u3.1, u.2 + u3.2) x4 m8))) Q) ∧ (¬ (¬ v1 = 0) → (((lg_cmp (x4.1) (v5.toInt64)) = 0 → Wp X (d + 1) 322 (2999, ([some (vs 0 0), some (vp 0 0), some (vp 31 0), some (vp 43 0), some (vp 44 0), some (vi l5), some (vi v1), some (vi v5), o8], ([], Gu (u.1 + u3.1, u.2 + u3.2) x4 m8))) Q) ∧ (¬ ((lg_cmp (x4.1) (v5.toInt64)) = 0) → Q (.inl (some (vi 0)), Gu (u.1 + u3.1, u.2 + u3.2) x4 m8)))))) ∧ (¬ (v7 = v1) → Q (.inl (some (vi 0)), Gu (u.1 + u3.1, u.2 + u3.2) x4 m8))))))))) : Wp X (d + 1) 322 (1844, ([some (vs 0 0), some (vp 0 0), some (vp 31 0), some (vp 43 0), some (vp 44 0), some (vi l5), o6, o7, o8], ([], Gu u x m))) Q := by
  obtain ⟨hg1_0, hg1_1, hg1_2, h⟩ := h
  refine wp_run 17 (inb (l5 + 3) X.1 && (inb (l5 + 2) X.1 && (inb (l5 + 1) X.1 && true))) (1864, ([some (vs 0 0), some (vp 0 0), some (vp 31 0), some (vp 43 0), some (vp 44 0), some (vi l5), o6, o7, o8], ([vp 43 0, vi (X.2 (l5 + 3).toNatClampNeg), vi (X.2 (l5 + 2).toNatClampNeg), vi (X.2 (l5 + 1).toNatClampNeg), vp 0 0], Gu u x m))) rfl (and_t hg1_2 (and_t hg1_1 (and_t hg1_0 rfl))) ?_
  refine wp_call 303 [vp 0 0, vi (X.2 (l5 + 1).toNatClampNeg), vi (X.2 (l5 + 2).toNatClampNeg), vi (X.2 (l5 + 3).toNatClampNeg), vp 43 0] (1867, ([some (vs 0 0), some (vp 0 0), some (vp 31 0), some (vp 43 0), some (vp 44 0), some (vi l5), o6, o7, o8], ([], Gu u x m))) rfl rfl (Cl.mono h (Nat.le_refl _) ?_)
  rintro r ⟨v1, m2, u3, x4, rfl, h⟩
  · show Wp X (d + 1) 322 (1867, ([some (vs 0 0), some (vp 0 0), some (vp 31 0), some (vp 43 0), some (vp 44 0), some (vi l5), o6, o7, o8], ([vi v1], Gu (u.1 + u3.1, u.2 + u3.2) x4 m2))) Q
    obtain ⟨hg2_0, hg2_1, hg2_2, h⟩ := h
    refine wp_run 17 (inb (l5 + 3) X.1 && (inb (l5 + 2) X.1 && (inb (l5 + 1) X.1 && true))) (1888, ([some (vs 0 0), some (vp 0 0), some (vp 31 0), some (vp 43 0), some (vp 44 0), some (vi l5), some (vi v1), o7, o8], ([vi (X.2 (l5 + 3).toNatClampNeg), vi (X.2 (l5 + 2).toNatClampNeg), vi (X.2 (l5 + 1).toNatClampNeg), vp 31 0], Gu (u.1 + u3.1, u.2 + u3.2) x4 m2))) rfl (and_t hg2_2 (and_t hg2_1 (and_t hg2_0 rfl))) ?_
    refine wp_call 221 [vp 31 0, vi (X.2 (l5 + 1).toNatClampNeg), vi (X.2 (l5 + 2).toNatClampNeg), vi (X.2 (l5 + 3).toNatClampNeg)] (1891, ([some (vs 0 0), some (vp 0 0), some (vp 31 0), some (vp 43 0), some (vp 44 0), some (vi l5), some (vi v1), o7, o8], ([], Gu (u.1 + u3.1, u.2 + u3.2) x4 m2))) rfl rfl (Cl.mono h (Nat.le_refl _) ?_)
    rintro r ⟨v5, m6, rfl, h⟩
    · show Wp X (d + 1) 322 (1891, ([some (vs 0 0), some (vp 0 0), some (vp 31 0), some (vp 43 0), some (vp 44 0), some (vi l5), some (vi v1), o7, o8], ([vi v5], Gu (u.1 + u3.1, u.2 + u3.2) x4 m6))) Q
      refine wp_run 2 true (1894, ([some (vs 0 0), some (vp 0 0), some (vp 31 0), some (vp 43 0), some (vp 44 0), some (vi l5), some (vi v1), some (vi v5), o8], ([vp 31 0], Gu (u.1 + u3.1, u.2 + u3.2) x4 m6))) rfl rfl ?_
      refine wp_call 146 [vp 31 0] (1897, ([some (vs 0 0), some (vp 0 0), some (vp 31 0), some (vp 43 0), some (vp 44 0), some (vi l5), some (vi v1), some (vi v5), o8], ([], Gu (u.1 + u3.1, u.2 + u3.2) x4 m6))) rfl rfl (Cl.mono h (Nat.le_refl _) ?_)
      rintro r ⟨v7, m8, rfl, h⟩
      · show Wp X (d + 1) 322 (1897, ([some (vs 0 0), some (vp 0 0), some (vp 31 0), some (vp 43 0), some (vp 44 0), some (vi l5), some (vi v1), some (vi v5), o8], ([vi v7], Gu (u.1 + u3.1, u.2 + u3.2) x4 m8))) Q
        refine wp_run 2 true ((bif decide (v7 = v1) then 1904 else 1902), ([some (vs 0 0), some (vp 0 0), some (vp 31 0), some (vp 43 0), some (vp 44 0), some (vi l5), some (vi v1), some (vi v5), o8], ([], Gu (u.1 + u3.1, u.2 + u3.2) x4 m8))) rfl rfl ?_
        refine wp_if (v7 = v1) (fun c9 => ?_) (fun c9 => ?_)
        · have h := h.1 c9
          refine wp_run 2 true ((bif decide (¬ v1 = 0) then 1921 else 1909), ([some (vs 0 0), some (vp 0 0), some (vp 31 0), some (vp 43 0), some (vp 44 0), some (vi l5), some (vi v1), some (vi v5), o8], ([], Gu (u.1 + u3.1, u.2 + u3.2) x4 m8))) rfl rfl ?_
          refine wp_if (¬ v1 = 0) (fun c10 => ?_) (fun c10 => ?_)
          · have h := h.1 c10
            refine wp_run 1 true (2999, ([some (vs 0 0), some (vp 0 0), some (vp 31 0), some (vp 43 0), some (vp 44 0), some (vi l5), some (vi v1), some (vi v5), o8], ([], Gu (u.1 + u3.1, u.2 + u3.2) x4 m8))) rfl rfl ?_
            exact h
          · have h := h.2 c10
            refine wp_run 7 true ((bif decide ((lg_cmp (x4.1) (v5.toInt64)) = 0) then 1921 else 1919), ([some (vs 0 0), some (vp 0 0), some (vp 31 0), some (vp 43 0), some (vp 44 0), some (vi l5), some (vi v1), some (vi v5), o8], ([], Gu (u.1 + u3.1, u.2 + u3.2) x4 m8))) rfl rfl ?_
            refine wp_if ((lg_cmp (x4.1) (v5.toInt64)) = 0) (fun c11 => ?_) (fun c11 => ?_)
            · have h := h.1 c11
              refine wp_run 1 true (2999, ([some (vs 0 0), some (vp 0 0), some (vp 31 0), some (vp 43 0), some (vp 44 0), some (vi l5), some (vi v1), some (vi v5), o8], ([], Gu (u.1 + u3.1, u.2 + u3.2) x4 m8))) rfl rfl ?_
              exact h
            · have h := h.2 c11
              refine wp_run 1 true (1920, ([some (vs 0 0), some (vp 0 0), some (vp 31 0), some (vp 43 0), some (vp 44 0), some (vi l5), some (vi v1), some (vi v5), o8], ([vi 0], Gu (u.1 + u3.1, u.2 + u3.2) x4 m8))) rfl rfl ?_
              exact wp_ret rfl h
        · have h := h.2 c9
          refine wp_run 1 true (1903, ([some (vs 0 0), some (vp 0 0), some (vp 31 0), some (vp 43 0), some (vp 44 0), some (vi l5), some (vi v1), some (vi v5), o8], ([vi 0], Gu (u.1 + u3.1, u.2 + u3.2) x4 m8))) rfl rfl ?_
          exact wp_ret rfl h
set_option maxRecDepth 100000 in
set_option maxHeartbeats 4000000 in
theorem vl_law_1924 {X : MX} {d : Nat} {x : Int64 × UInt64} {m : MI} {Q : MRes → Prop} {u : Nat × Nat} {l5 : Int32} {o6 : Option MV} {o7 : Option MV} {o8 : Option MV} (h : Cl X d 304 [vp 0 0, vp 43 0] (Gu u x m) (fun r => ∃ (v1 : Int32) (m2 : MI) (u3 : Nat × Nat) (x4 : Int64 × UInt64), r = (.inl (some (vi v1)), Gu u3 x4 m2) ∧ Cl X d 223 [vp 31 0] (Gu (u.1 + u3.1, u.2 + u3.2) x4 m2) (fun r => ∃ (v5 : Int32) (m6 : MI), r = (.inl (some (vi v5)), G x4 m6) ∧ Cl X d 146 [vp 31 0] (Gu (u.1 + u3.1, u.2 + u3.2) x4 m6) (fun r => ∃ (v7 : Int32) (m8 : MI), r = (.inl (some (vi v7)), G x4 m8) ∧ ((v7 = v1 → ((¬ v1 = 0 → Wp X (d + 1) 322 (2999, ([some (vs 0 0), some (vp 0 0), some (vp 31 0), some (vp 43 0), some (vp 44 0), some (vi l5), some (vi v1), some (vi v5), o8], ([], Gu (u.1 + u3.1, u.2 + u3.2) x4 m8))) Q) ∧ (¬ (¬ v1 = 0) → (((lg_cmp (x4.1) (v5.toInt64)) = 0 → Wp X (d + 1) 322 (2999, ([some (vs 0 0), some (vp 0 0), some (vp 31 0), some (vp 43 0), some (vp 44 0), some (vi l5), some (vi v1), some (vi v5), o8], ([], Gu (u.1 + u3.1, u.2 + u3.2) x4 m8))) Q) ∧ (¬ ((lg_cmp (x4.1) (v5.toInt64)) = 0) → Q (.inl (some (vi 0)), Gu (u.1 + u3.1, u.2 + u3.2) x4 m8)))))) ∧ (¬ (v7 = v1) → Q (.inl (some (vi 0)), Gu (u.1 + u3.1, u.2 + u3.2) x4 m8))))))) : Wp X (d + 1) 322 (1924, ([some (vs 0 0), some (vp 0 0), some (vp 31 0), some (vp 43 0), some (vp 44 0), some (vi l5), o6, o7, o8], ([], Gu u x m))) Q := by
  refine wp_run 2 true (1926, ([some (vs 0 0), some (vp 0 0), some (vp 31 0), some (vp 43 0), some (vp 44 0), some (vi l5), o6, o7, o8], ([vp 43 0, vp 0 0], Gu u x m))) rfl rfl ?_
  refine wp_call 304 [vp 0 0, vp 43 0] (1929, ([some (vs 0 0), some (vp 0 0), some (vp 31 0), some (vp 43 0), some (vp 44 0), some (vi l5), o6, o7, o8], ([], Gu u x m))) rfl rfl (Cl.mono h (Nat.le_refl _) ?_)
  rintro r ⟨v1, m2, u3, x4, rfl, h⟩
  · show Wp X (d + 1) 322 (1929, ([some (vs 0 0), some (vp 0 0), some (vp 31 0), some (vp 43 0), some (vp 44 0), some (vi l5), o6, o7, o8], ([vi v1], Gu (u.1 + u3.1, u.2 + u3.2) x4 m2))) Q
    refine wp_run 2 true (1932, ([some (vs 0 0), some (vp 0 0), some (vp 31 0), some (vp 43 0), some (vp 44 0), some (vi l5), some (vi v1), o7, o8], ([vp 31 0], Gu (u.1 + u3.1, u.2 + u3.2) x4 m2))) rfl rfl ?_
    refine wp_call 223 [vp 31 0] (1935, ([some (vs 0 0), some (vp 0 0), some (vp 31 0), some (vp 43 0), some (vp 44 0), some (vi l5), some (vi v1), o7, o8], ([], Gu (u.1 + u3.1, u.2 + u3.2) x4 m2))) rfl rfl (Cl.mono h (Nat.le_refl _) ?_)
    rintro r ⟨v5, m6, rfl, h⟩
    · show Wp X (d + 1) 322 (1935, ([some (vs 0 0), some (vp 0 0), some (vp 31 0), some (vp 43 0), some (vp 44 0), some (vi l5), some (vi v1), o7, o8], ([vi v5], Gu (u.1 + u3.1, u.2 + u3.2) x4 m6))) Q
      refine wp_run 2 true (1938, ([some (vs 0 0), some (vp 0 0), some (vp 31 0), some (vp 43 0), some (vp 44 0), some (vi l5), some (vi v1), some (vi v5), o8], ([vp 31 0], Gu (u.1 + u3.1, u.2 + u3.2) x4 m6))) rfl rfl ?_
      refine wp_call 146 [vp 31 0] (1941, ([some (vs 0 0), some (vp 0 0), some (vp 31 0), some (vp 43 0), some (vp 44 0), some (vi l5), some (vi v1), some (vi v5), o8], ([], Gu (u.1 + u3.1, u.2 + u3.2) x4 m6))) rfl rfl (Cl.mono h (Nat.le_refl _) ?_)
      rintro r ⟨v7, m8, rfl, h⟩
      · show Wp X (d + 1) 322 (1941, ([some (vs 0 0), some (vp 0 0), some (vp 31 0), some (vp 43 0), some (vp 44 0), some (vi l5), some (vi v1), some (vi v5), o8], ([vi v7], Gu (u.1 + u3.1, u.2 + u3.2) x4 m8))) Q
        refine wp_run 2 true ((bif decide (v7 = v1) then 1948 else 1946), ([some (vs 0 0), some (vp 0 0), some (vp 31 0), some (vp 43 0), some (vp 44 0), some (vi l5), some (vi v1), some (vi v5), o8], ([], Gu (u.1 + u3.1, u.2 + u3.2) x4 m8))) rfl rfl ?_
        refine wp_if (v7 = v1) (fun c9 => ?_) (fun c9 => ?_)
        · have h := h.1 c9
          refine wp_run 2 true ((bif decide (¬ v1 = 0) then 1965 else 1953), ([some (vs 0 0), some (vp 0 0), some (vp 31 0), some (vp 43 0), some (vp 44 0), some (vi l5), some (vi v1), some (vi v5), o8], ([], Gu (u.1 + u3.1, u.2 + u3.2) x4 m8))) rfl rfl ?_
          refine wp_if (¬ v1 = 0) (fun c10 => ?_) (fun c10 => ?_)
          · have h := h.1 c10
            refine wp_run 1 true (2999, ([some (vs 0 0), some (vp 0 0), some (vp 31 0), some (vp 43 0), some (vp 44 0), some (vi l5), some (vi v1), some (vi v5), o8], ([], Gu (u.1 + u3.1, u.2 + u3.2) x4 m8))) rfl rfl ?_
            exact h
          · have h := h.2 c10
            refine wp_run 7 true ((bif decide ((lg_cmp (x4.1) (v5.toInt64)) = 0) then 1965 else 1963), ([some (vs 0 0), some (vp 0 0), some (vp 31 0), some (vp 43 0), some (vp 44 0), some (vi l5), some (vi v1), some (vi v5), o8], ([], Gu (u.1 + u3.1, u.2 + u3.2) x4 m8))) rfl rfl ?_
            refine wp_if ((lg_cmp (x4.1) (v5.toInt64)) = 0) (fun c11 => ?_) (fun c11 => ?_)
            · have h := h.1 c11
              refine wp_run 1 true (2999, ([some (vs 0 0), some (vp 0 0), some (vp 31 0), some (vp 43 0), some (vp 44 0), some (vi l5), some (vi v1), some (vi v5), o8], ([], Gu (u.1 + u3.1, u.2 + u3.2) x4 m8))) rfl rfl ?_
              exact h
            · have h := h.2 c11
              refine wp_run 1 true (1964, ([some (vs 0 0), some (vp 0 0), some (vp 31 0), some (vp 43 0), some (vp 44 0), some (vi l5), some (vi v1), some (vi v5), o8], ([vi 0], Gu (u.1 + u3.1, u.2 + u3.2) x4 m8))) rfl rfl ?_
              exact wp_ret rfl h
        · have h := h.2 c9
          refine wp_run 1 true (1947, ([some (vs 0 0), some (vp 0 0), some (vp 31 0), some (vp 43 0), some (vp 44 0), some (vi l5), some (vi v1), some (vi v5), o8], ([vi 0], Gu (u.1 + u3.1, u.2 + u3.2) x4 m8))) rfl rfl ?_
          exact wp_ret rfl h
set_option maxRecDepth 100000 in
set_option maxHeartbeats 4000000 in
theorem vl_law_1968 {X : MX} {d : Nat} {x : Int64 × UInt64} {m : MI} {Q : MRes → Prop} {u : Nat × Nat} {l5 : Int32} {o6 : Option MV} {o7 : Option MV} {o8 : Option MV} (h : Cl X d 305 [vp 0 0, vp 43 0] (Gu u x m) (fun r => ∃ (v1 : Int32) (m2 : MI) (u3 : Nat × Nat) (x4 : Int64 × UInt64), r = (.inl (some (vi v1)), Gu u3 x4 m2) ∧ Cl X d 224 [vp 31 0] (Gu (u.1 + u3.1, u.2 + u3.2) x4 m2) (fun r => ∃ (v5 : Int32) (m6 : MI), r = (.inl (some (vi v5)), G x4 m6) ∧ Cl X d 146 [vp 31 0] (Gu (u.1 + u3.1, u.2 + u3.2) x4 m6) (fun r => ∃ (v7 : Int32) (m8 : MI), r = (.inl (some (vi v7)), G x4 m8) ∧ ((v7 = v1 → ((¬ v1 = 0 → Wp X (d + 1) 322 (2999, ([some (vs 0 0), some (vp 0 0), some (vp 31 0), some (vp 43 0), some (vp 44 0), some (vi l5), some (vi v1), some (vi v5), o8], ([], Gu (u.1 + u3.1, u.2 + u3.2) x4 m8))) Q) ∧ (¬ (¬ v1 = 0) → (((lg_cmp (x4.1) (v5.toInt64)) = 0 → Wp X (d + 1) 322 (2999, ([some (vs 0 0), some (vp 0 0), some (vp 31 0), some (vp 43 0), some (vp 44 0), some (vi l5), some (vi v1), some (vi v5), o8], ([], Gu (u.1 + u3.1, u.2 + u3.2) x4 m8))) Q) ∧ (¬ ((lg_cmp (x4.1) (v5.toInt64)) = 0) → Q (.inl (some (vi 0)), Gu (u.1 + u3.1, u.2 + u3.2) x4 m8)))))) ∧ (¬ (v7 = v1) → Q (.inl (some (vi 0)), Gu (u.1 + u3.1, u.2 + u3.2) x4 m8))))))) : Wp X (d + 1) 322 (1968, ([some (vs 0 0), some (vp 0 0), some (vp 31 0), some (vp 43 0), some (vp 44 0), some (vi l5), o6, o7, o8], ([], Gu u x m))) Q := by
  refine wp_run 2 true (1970, ([some (vs 0 0), some (vp 0 0), some (vp 31 0), some (vp 43 0), some (vp 44 0), some (vi l5), o6, o7, o8], ([vp 43 0, vp 0 0], Gu u x m))) rfl rfl ?_
  refine wp_call 305 [vp 0 0, vp 43 0] (1973, ([some (vs 0 0), some (vp 0 0), some (vp 31 0), some (vp 43 0), some (vp 44 0), some (vi l5), o6, o7, o8], ([], Gu u x m))) rfl rfl (Cl.mono h (Nat.le_refl _) ?_)
  rintro r ⟨v1, m2, u3, x4, rfl, h⟩
  · show Wp X (d + 1) 322 (1973, ([some (vs 0 0), some (vp 0 0), some (vp 31 0), some (vp 43 0), some (vp 44 0), some (vi l5), o6, o7, o8], ([vi v1], Gu (u.1 + u3.1, u.2 + u3.2) x4 m2))) Q
    refine wp_run 2 true (1976, ([some (vs 0 0), some (vp 0 0), some (vp 31 0), some (vp 43 0), some (vp 44 0), some (vi l5), some (vi v1), o7, o8], ([vp 31 0], Gu (u.1 + u3.1, u.2 + u3.2) x4 m2))) rfl rfl ?_
    refine wp_call 224 [vp 31 0] (1979, ([some (vs 0 0), some (vp 0 0), some (vp 31 0), some (vp 43 0), some (vp 44 0), some (vi l5), some (vi v1), o7, o8], ([], Gu (u.1 + u3.1, u.2 + u3.2) x4 m2))) rfl rfl (Cl.mono h (Nat.le_refl _) ?_)
    rintro r ⟨v5, m6, rfl, h⟩
    · show Wp X (d + 1) 322 (1979, ([some (vs 0 0), some (vp 0 0), some (vp 31 0), some (vp 43 0), some (vp 44 0), some (vi l5), some (vi v1), o7, o8], ([vi v5], Gu (u.1 + u3.1, u.2 + u3.2) x4 m6))) Q
      refine wp_run 2 true (1982, ([some (vs 0 0), some (vp 0 0), some (vp 31 0), some (vp 43 0), some (vp 44 0), some (vi l5), some (vi v1), some (vi v5), o8], ([vp 31 0], Gu (u.1 + u3.1, u.2 + u3.2) x4 m6))) rfl rfl ?_
      refine wp_call 146 [vp 31 0] (1985, ([some (vs 0 0), some (vp 0 0), some (vp 31 0), some (vp 43 0), some (vp 44 0), some (vi l5), some (vi v1), some (vi v5), o8], ([], Gu (u.1 + u3.1, u.2 + u3.2) x4 m6))) rfl rfl (Cl.mono h (Nat.le_refl _) ?_)
      rintro r ⟨v7, m8, rfl, h⟩
      · show Wp X (d + 1) 322 (1985, ([some (vs 0 0), some (vp 0 0), some (vp 31 0), some (vp 43 0), some (vp 44 0), some (vi l5), some (vi v1), some (vi v5), o8], ([vi v7], Gu (u.1 + u3.1, u.2 + u3.2) x4 m8))) Q
        refine wp_run 2 true ((bif decide (v7 = v1) then 1992 else 1990), ([some (vs 0 0), some (vp 0 0), some (vp 31 0), some (vp 43 0), some (vp 44 0), some (vi l5), some (vi v1), some (vi v5), o8], ([], Gu (u.1 + u3.1, u.2 + u3.2) x4 m8))) rfl rfl ?_
        refine wp_if (v7 = v1) (fun c9 => ?_) (fun c9 => ?_)
        · have h := h.1 c9
          refine wp_run 2 true ((bif decide (¬ v1 = 0) then 2009 else 1997), ([some (vs 0 0), some (vp 0 0), some (vp 31 0), some (vp 43 0), some (vp 44 0), some (vi l5), some (vi v1), some (vi v5), o8], ([], Gu (u.1 + u3.1, u.2 + u3.2) x4 m8))) rfl rfl ?_
          refine wp_if (¬ v1 = 0) (fun c10 => ?_) (fun c10 => ?_)
          · have h := h.1 c10
            refine wp_run 1 true (2999, ([some (vs 0 0), some (vp 0 0), some (vp 31 0), some (vp 43 0), some (vp 44 0), some (vi l5), some (vi v1), some (vi v5), o8], ([], Gu (u.1 + u3.1, u.2 + u3.2) x4 m8))) rfl rfl ?_
            exact h
          · have h := h.2 c10
            refine wp_run 7 true ((bif decide ((lg_cmp (x4.1) (v5.toInt64)) = 0) then 2009 else 2007), ([some (vs 0 0), some (vp 0 0), some (vp 31 0), some (vp 43 0), some (vp 44 0), some (vi l5), some (vi v1), some (vi v5), o8], ([], Gu (u.1 + u3.1, u.2 + u3.2) x4 m8))) rfl rfl ?_
            refine wp_if ((lg_cmp (x4.1) (v5.toInt64)) = 0) (fun c11 => ?_) (fun c11 => ?_)
            · have h := h.1 c11
              refine wp_run 1 true (2999, ([some (vs 0 0), some (vp 0 0), some (vp 31 0), some (vp 43 0), some (vp 44 0), some (vi l5), some (vi v1), some (vi v5), o8], ([], Gu (u.1 + u3.1, u.2 + u3.2) x4 m8))) rfl rfl ?_
              exact h
            · have h := h.2 c11
              refine wp_run 1 true (2008, ([some (vs 0 0), some (vp 0 0), some (vp 31 0), some (vp 43 0), some (vp 44 0), some (vi l5), some (vi v1), some (vi v5), o8], ([vi 0], Gu (u.1 + u3.1, u.2 + u3.2) x4 m8))) rfl rfl ?_
              exact wp_ret rfl h
        · have h := h.2 c9
          refine wp_run 1 true (1991, ([some (vs 0 0), some (vp 0 0), some (vp 31 0), some (vp 43 0), some (vp 44 0), some (vi l5), some (vi v1), some (vi v5), o8], ([vi 0], Gu (u.1 + u3.1, u.2 + u3.2) x4 m8))) rfl rfl ?_
          exact wp_ret rfl h
set_option maxRecDepth 100000 in
set_option maxHeartbeats 4000000 in
theorem vl_law_2012 {X : MX} {d : Nat} {x : Int64 × UInt64} {m : MI} {Q : MRes → Prop} {u : Nat × Nat} {l5 : Int32} {o6 : Option MV} {o7 : Option MV} {o8 : Option MV} (h : Cl X d 31 [vp 0 0] (Gu u x m) (fun r => ∃ (v1 : Int32) (m2 : MI), r = (.inl (some (vi v1)), G x m2) ∧ Cl X d 230 [vp 31 0] (Gu u x m2) (fun r => ∃ (v3 : Int32) (m4 : MI), r = (.inl (some (vi v3)), G x m4) ∧ ((v1 = v3 → Wp X (d + 1) 322 (2999, ([some (vs 0 0), some (vp 0 0), some (vp 31 0), some (vp 43 0), some (vp 44 0), some (vi l5), o6, o7, o8], ([], Gu u x m4))) Q) ∧ (¬ (v1 = v3) → Q (.inl (some (vi 0)), Gu u x m4)))))) : Wp X (d + 1) 322 (2012, ([some (vs 0 0), some (vp 0 0), some (vp 31 0), some (vp 43 0), some (vp 44 0), some (vi l5), o6, o7, o8], ([], Gu u x m))) Q := by
  refine wp_run 1 true (2013, ([some (vs 0 0), some (vp 0 0), some (vp 31 0), some (vp 43 0), some (vp 44 0), some (vi l5), o6, o7, o8], ([vp 0 0], Gu u x m))) rfl rfl ?_
  refine wp_call 31 [vp 0 0] (2016, ([some (vs 0 0), some (vp 0 0), some (vp 31 0), some (vp 43 0), some (vp 44 0), some (vi l5), o6, o7, o8], ([], Gu u x m))) rfl rfl (Cl.mono h (Nat.le_refl _) ?_)
  rintro r ⟨v1, m2, rfl, h⟩
  · show Wp X (d + 1) 322 (2016, ([some (vs 0 0), some (vp 0 0), some (vp 31 0), some (vp 43 0), some (vp 44 0), some (vi l5), o6, o7, o8], ([vi v1], Gu u x m2))) Q
    refine wp_run 1 true (2017, ([some (vs 0 0), some (vp 0 0), some (vp 31 0), some (vp 43 0), some (vp 44 0), some (vi l5), o6, o7, o8], ([vp 31 0, vi v1], Gu u x m2))) rfl rfl ?_
    refine wp_call 230 [vp 31 0] (2020, ([some (vs 0 0), some (vp 0 0), some (vp 31 0), some (vp 43 0), some (vp 44 0), some (vi l5), o6, o7, o8], ([vi v1], Gu u x m2))) rfl rfl (Cl.mono h (Nat.le_refl _) ?_)
    rintro r ⟨v3, m4, rfl, h⟩
    · show Wp X (d + 1) 322 (2020, ([some (vs 0 0), some (vp 0 0), some (vp 31 0), some (vp 43 0), some (vp 44 0), some (vi l5), o6, o7, o8], ([vi v3, vi v1], Gu u x m4))) Q
      refine wp_run 1 true ((bif decide (v1 = v3) then 2999 else 2023), ([some (vs 0 0), some (vp 0 0), some (vp 31 0), some (vp 43 0), some (vp 44 0), some (vi l5), o6, o7, o8], ([], Gu u x m4))) rfl rfl ?_
      refine wp_if (v1 = v3) (fun c5 => ?_) (fun c5 => ?_)
      · have h := h.1 c5
        exact h
      · have h := h.2 c5
        refine wp_run 1 true (2024, ([some (vs 0 0), some (vp 0 0), some (vp 31 0), some (vp 43 0), some (vp 44 0), some (vi l5), o6, o7, o8], ([vi 0], Gu u x m4))) rfl rfl ?_
        exact wp_ret rfl h
set_option maxRecDepth 100000 in
set_option maxHeartbeats 4000000 in
theorem vl_law_2025 {X : MX} {d : Nat} {x : Int64 × UInt64} {m : MI} {Q : MRes → Prop} {u : Nat × Nat} {l5 : Int32} {o6 : Option MV} {o7 : Option MV} {o8 : Option MV} (h : Cl X d 32 [vp 0 0] (Gu u x m) (fun r => ∃ (v1 : Int32) (m2 : MI), r = (.inl (some (vi v1)), G x m2) ∧ Cl X d 231 [vp 31 0] (Gu u x m2) (fun r => ∃ (v3 : Int32) (m4 : MI), r = (.inl (some (vi v3)), G x m4) ∧ ((v1 = v3 → Wp X (d + 1) 322 (2999, ([some (vs 0 0), some (vp 0 0), some (vp 31 0), some (vp 43 0), some (vp 44 0), some (vi l5), o6, o7, o8], ([], Gu u x m4))) Q) ∧ (¬ (v1 = v3) → Q (.inl (some (vi 0)), Gu u x m4)))))) : Wp X (d + 1) 322 (2025, ([some (vs 0 0), some (vp 0 0), some (vp 31 0), some (vp 43 0), some (vp 44 0), some (vi l5), o6, o7, o8], ([], Gu u x m))) Q := by
  refine wp_run 1 true (2026, ([some (vs 0 0), some (vp 0 0), some (vp 31 0), some (vp 43 0), some (vp 44 0), some (vi l5), o6, o7, o8], ([vp 0 0], Gu u x m))) rfl rfl ?_
  refine wp_call 32 [vp 0 0] (2029, ([some (vs 0 0), some (vp 0 0), some (vp 31 0), some (vp 43 0), some (vp 44 0), some (vi l5), o6, o7, o8], ([], Gu u x m))) rfl rfl (Cl.mono h (Nat.le_refl _) ?_)
  rintro r ⟨v1, m2, rfl, h⟩
  · show Wp X (d + 1) 322 (2029, ([some (vs 0 0), some (vp 0 0), some (vp 31 0), some (vp 43 0), some (vp 44 0), some (vi l5), o6, o7, o8], ([vi v1], Gu u x m2))) Q
    refine wp_run 1 true (2030, ([some (vs 0 0), some (vp 0 0), some (vp 31 0), some (vp 43 0), some (vp 44 0), some (vi l5), o6, o7, o8], ([vp 31 0, vi v1], Gu u x m2))) rfl rfl ?_
    refine wp_call 231 [vp 31 0] (2033, ([some (vs 0 0), some (vp 0 0), some (vp 31 0), some (vp 43 0), some (vp 44 0), some (vi l5), o6, o7, o8], ([vi v1], Gu u x m2))) rfl rfl (Cl.mono h (Nat.le_refl _) ?_)
    rintro r ⟨v3, m4, rfl, h⟩
    · show Wp X (d + 1) 322 (2033, ([some (vs 0 0), some (vp 0 0), some (vp 31 0), some (vp 43 0), some (vp 44 0), some (vi l5), o6, o7, o8], ([vi v3, vi v1], Gu u x m4))) Q
      refine wp_run 1 true ((bif decide (v1 = v3) then 2999 else 2036), ([some (vs 0 0), some (vp 0 0), some (vp 31 0), some (vp 43 0), some (vp 44 0), some (vi l5), o6, o7, o8], ([], Gu u x m4))) rfl rfl ?_
      refine wp_if (v1 = v3) (fun c5 => ?_) (fun c5 => ?_)
      · have h := h.1 c5
        exact h
      · have h := h.2 c5
        refine wp_run 1 true (2037, ([some (vs 0 0), some (vp 0 0), some (vp 31 0), some (vp 43 0), some (vp 44 0), some (vi l5), o6, o7, o8], ([vi 0], Gu u x m4))) rfl rfl ?_
        exact wp_ret rfl h
set_option maxRecDepth 100000 in
set_option maxHeartbeats 4000000 in
theorem vl_law_2038 {X : MX} {d : Nat} {x : Int64 × UInt64} {m : MI} {Q : MRes → Prop} {u : Nat × Nat} {l5 : Int32} {o6 : Option MV} {o7 : Option MV} {o8 : Option MV} (h : Cl X d 33 [vp 0 0] (Gu u x m) (fun r => ∃ (v1 : Int32) (m2 : MI), r = (.inl (some (vi v1)), G x m2) ∧ Cl X d 232 [vp 31 0] (Gu u x m2) (fun r => ∃ (v3 : Int32) (m4 : MI), r = (.inl (some (vi v3)), G x m4) ∧ ((v1 = v3 → Wp X (d + 1) 322 (2999, ([some (vs 0 0), some (vp 0 0), some (vp 31 0), some (vp 43 0), some (vp 44 0), some (vi l5), o6, o7, o8], ([], Gu u x m4))) Q) ∧ (¬ (v1 = v3) → Q (.inl (some (vi 0)), Gu u x m4)))))) : Wp X (d + 1) 322 (2038, ([some (vs 0 0), some (vp 0 0), some (vp 31 0), some (vp 43 0), some (vp 44 0), some (vi l5), o6, o7, o8], ([], Gu u x m))) Q := by
  refine wp_run 1 true (2039, ([some (vs 0 0), some (vp 0 0), some (vp 31 0), some (vp 43 0), some (vp 44 0), some (vi l5), o6, o7, o8], ([vp 0 0], Gu u x m))) rfl rfl ?_
  refine wp_call 33 [vp 0 0] (2042, ([some (vs 0 0), some (vp 0 0), some (vp 31 0), some (vp 43 0), some (vp 44 0), some (vi l5), o6, o7, o8], ([], Gu u x m))) rfl rfl (Cl.mono h (Nat.le_refl _) ?_)
  rintro r ⟨v1, m2, rfl, h⟩
  · show Wp X (d + 1) 322 (2042, ([some (vs 0 0), some (vp 0 0), some (vp 31 0), some (vp 43 0), some (vp 44 0), some (vi l5), o6, o7, o8], ([vi v1], Gu u x m2))) Q
    refine wp_run 1 true (2043, ([some (vs 0 0), some (vp 0 0), some (vp 31 0), some (vp 43 0), some (vp 44 0), some (vi l5), o6, o7, o8], ([vp 31 0, vi v1], Gu u x m2))) rfl rfl ?_
    refine wp_call 232 [vp 31 0] (2046, ([some (vs 0 0), some (vp 0 0), some (vp 31 0), some (vp 43 0), some (vp 44 0), some (vi l5), o6, o7, o8], ([vi v1], Gu u x m2))) rfl rfl (Cl.mono h (Nat.le_refl _) ?_)
    rintro r ⟨v3, m4, rfl, h⟩
    · show Wp X (d + 1) 322 (2046, ([some (vs 0 0), some (vp 0 0), some (vp 31 0), some (vp 43 0), some (vp 44 0), some (vi l5), o6, o7, o8], ([vi v3, vi v1], Gu u x m4))) Q
      refine wp_run 1 true ((bif decide (v1 = v3) then 2999 else 2049), ([some (vs 0 0), some (vp 0 0), some (vp 31 0), some (vp 43 0), some (vp 44 0), some (vi l5), o6, o7, o8], ([], Gu u x m4))) rfl rfl ?_
      refine wp_if (v1 = v3) (fun c5 => ?_) (fun c5 => ?_)
      · have h := h.1 c5
        exact h
      · have h := h.2 c5
        refine wp_run 1 true (2050, ([some (vs 0 0), some (vp 0 0), some (vp 31 0), some (vp 43 0), some (vp 44 0), some (vi l5), o6, o7, o8], ([vi 0], Gu u x m4))) rfl rfl ?_
        exact wp_ret rfl h
set_option maxRecDepth 100000 in
set_option maxHeartbeats 4000000 in
theorem vl_law_2051 {X : MX} {d : Nat} {x : Int64 × UInt64} {m : MI} {Q : MRes → Prop} {u : Nat × Nat} {l5 : Int32} {o6 : Option MV} {o7 : Option MV} {o8 : Option MV} (h : (inb (l5 + 1) X.1 = true ∧ Cl X d 306 [vp 0 0, vi (X.2 (l5 + 1).toNatClampNeg), vp 43 0] (Gu u x m) (fun r => ∃ (v1 : Int32) (m2 : MI) (u3 : Nat × Nat) (x4 : Int64 × UInt64), r = (.inl (some (vi v1)), Gu u3 x4 m2) ∧ (inb (l5 + 1) X.1 = true ∧ Cl X d 233 [vp 31 0, vi (X.2 (l5 + 1).toNatClampNeg)] (Gu (u.1 + u3.1, u.2 + u3.2) x4 m2) (fun r => ∃ (v5 : Int32) (m6 : MI), r = (.inl (some (vi v5)), G x4 m6) ∧ Cl X d 146 [vp 31 0] (Gu (u.1 + u3.1, u.2 + u3.2) x4 m6) (fun r => ∃ (v7 : Int32) (m8 : MI), r = (.inl (some (vi v7)), G x4 m8) ∧ ((v7 = v1 → ((¬ v1 = 0 → Wp X (d + 1) 322 (2999, ([some (vs 0 0), some (vp 0 0), some (vp 31 0), some (vp 43 0), some (vp 44 0), some (vi l5), some (vi v1), some (vi v5), o8], ([], Gu (u.1 + u3.1, u.2 + u3.2) x4 m8))) Q) ∧ (¬ (¬ v1 = 0) → (((lg_cmp (x4.1) (v5.toInt64)) = 0 → Wp X (d + 1) 322 (2999, ([some (vs 0 0), some (vp 0 0), some (vp 31 0), some (vp 43 0), some (vp 44 0), some (vi l5), some (vi v1), some (vi v5), o8], ([], Gu (u.1 + u3.1, u.2 + u3.2) x4 m8))) Q) ∧ (¬ ((lg_cmp (x4.1) (v5.toInt64)) = 0) → Q (.inl (some (vi 0)), Gu (u.1 + u3.1, u.2 + u3.2) x4 m8)))))) ∧ (¬ (v7 = v1) → Q (.inl (some (vi 0)), Gu (u.1 + u3.1, u.2 + u3.2) x4 m8))))))))) : Wp X (d + 1) 322 (2051, ([some (vs 0 0), some (vp 0 0), some (vp 31 0), some (vp 43 0), some (vp 44 0), some (vi l5), o6, o7, o8], ([], Gu u x m))) Q := by
  obtain ⟨hg1_0, h⟩ := h
  refine wp_run 7 (inb (l5 + 1) X.1 && true) (2059, ([some (vs 0 0), some (vp 0 0), some (vp 31 0), some (vp 43 0), some (vp 44 0), some (vi l5), o6, o7, o8], ([vp 43 0, vi (X.2 (l5 + 1).toNatClampNeg), vp 0 0], Gu u x m))) rfl (and_t hg1_0 rfl) ?_
  refine wp_call 306 [vp 0 0, vi (X.2 (l5 + 1).toNatClampNeg), vp 43 0] (2062, ([some (vs 0 0), some (vp 0 0), some (vp 31 0), some (vp 43 0), some (vp 44 0), some (vi l5), o6, o7, o8], ([], Gu u x m))) rfl rfl (Cl.mono h (Nat.le_refl _) ?_)
  rintro r ⟨v1, m2, u3, x4, rfl, h⟩
  · show Wp X (d + 1) 322 (2062, ([some (vs 0 0), some (vp 0 0), some (vp 31 0), some (vp 43 0), some (vp 44 0), some (vi l5), o6, o7, o8], ([vi v1], Gu (u.1 + u3.1, u.2 + u3.2) x4 m2))) Q
    obtain ⟨hg2_0, h⟩ := h
    refine wp_run 7 (inb (l5 + 1) X.1 && true) (2071, ([some (vs 0 0), some (vp 0 0), some (vp 31 0), some (vp 43 0), some (vp 44 0), some (vi l5), some (vi v1), o7, o8], ([vi (X.2 (l5 + 1).toNatClampNeg), vp 31 0], Gu (u.1 + u3.1, u.2 + u3.2) x4 m2))) rfl (and_t hg2_0 rfl) ?_
    refine wp_call 233 [vp 31 0, vi (X.2 (l5 + 1).toNatClampNeg)] (2074, ([some (vs 0 0), some (vp 0 0), some (vp 31 0), some (vp 43 0), some (vp 44 0), some (vi l5), some (vi v1), o7, o8], ([], Gu (u.1 + u3.1, u.2 + u3.2) x4 m2))) rfl rfl (Cl.mono h (Nat.le_refl _) ?_)
    rintro r ⟨v5, m6, rfl, h⟩
    · show Wp X (d + 1) 322 (2074, ([some (vs 0 0), some (vp 0 0), some (vp 31 0), some (vp 43 0), some (vp 44 0), some (vi l5), some (vi v1), o7, o8], ([vi v5], Gu (u.1 + u3.1, u.2 + u3.2) x4 m6))) Q
      refine wp_run 2 true (2077, ([some (vs 0 0), some (vp 0 0), some (vp 31 0), some (vp 43 0), some (vp 44 0), some (vi l5), some (vi v1), some (vi v5), o8], ([vp 31 0], Gu (u.1 + u3.1, u.2 + u3.2) x4 m6))) rfl rfl ?_
      refine wp_call 146 [vp 31 0] (2080, ([some (vs 0 0), some (vp 0 0), some (vp 31 0), some (vp 43 0), some (vp 44 0), some (vi l5), some (vi v1), some (vi v5), o8], ([], Gu (u.1 + u3.1, u.2 + u3.2) x4 m6))) rfl rfl (Cl.mono h (Nat.le_refl _) ?_)
      rintro r ⟨v7, m8, rfl, h⟩
      · show Wp X (d + 1) 322 (2080, ([some (vs 0 0), some (vp 0 0), some (vp 31 0), some (vp 43 0), some (vp 44 0), some (vi l5), some (vi v1), some (vi v5), o8], ([vi v7], Gu (u.1 + u3.1, u.2 + u3.2) x4 m8))) Q
        refine wp_run 2 true ((bif decide (v7 = v1) then 2087 else 2085), ([some (vs 0 0), some (vp 0 0), some (vp 31 0), some (vp 43 0), some (vp 44 0), some (vi l5), some (vi v1), some (vi v5), o8], ([], Gu (u.1 + u3.1, u.2 + u3.2) x4 m8))) rfl rfl ?_
        refine wp_if (v7 = v1) (fun c9 => ?_) (fun c9 => ?_)
        · have h := h.1 c9
          refine wp_run 2 true ((bif decide (¬ v1 = 0) then 2104 else 2092), ([some (vs 0 0), some (vp 0 0), some (vp 31 0), some (vp 43 0), some (vp 44 0), some (vi l5), some (vi v1), some (vi v5), o8], ([], Gu (u.1 + u3.1, u.2 + u3.2) x4 m8))) rfl rfl ?_
          refine wp_if (¬ v1 = 0) (fun c10 => ?_) (fun c10 => ?_)
          · have h := h.1 c10
            refine wp_run 1 true (2999, ([some (vs 0 0), some (vp 0 0), some (vp 31 0), some (vp 43 0), some (vp 44 0), some (vi l5), some (vi v1), some (vi v5), o8], ([], Gu (u.1 + u3.1, u.2 + u3.2) x4 m8))) rfl rfl ?_
            exact h
          · have h := h.2 c10
            refine wp_run 7 true ((bif decide ((lg_cmp (x4.1) (v5.toInt64)) = 0) then 2104 else 2102), ([some (vs 0 0), some (vp 0 0), some (vp 31 0), some (vp 43 0), some (vp 44 0), some (vi l5), some (vi v1), some (vi v5), o8], ([], Gu (u.1 + u3.1, u.2 + u3.2) x4 m8))) rfl rfl ?_
            refine wp_if ((lg_cmp (x4.1) (v5.toInt64)) = 0) (fun c11 => ?_) (fun c11 => ?_)
            · have h := h.1 c11
              refine wp_run 1 true (2999, ([some (vs 0 0), some (vp 0 0), some (vp 31 0), some (vp 43 0), some (vp 44 0), some (vi l5), some (vi v1), some (vi v5), o8], ([], Gu (u.1 + u3.1, u.2 + u3.2) x4 m8))) rfl rfl ?_
              exact h
            · have h := h.2 c11
              refine wp_run 1 true (2103, ([some (vs 0 0), some (vp 0 0), some (vp 31 0), some (vp 43 0), some (vp 44 0), some (vi l5), some (vi v1), some (vi v5), o8], ([vi 0], Gu (u.1 + u3.1, u.2 + u3.2) x4 m8))) rfl rfl ?_
              exact wp_ret rfl h
        · have h := h.2 c9
          refine wp_run 1 true (2086, ([some (vs 0 0), some (vp 0 0), some (vp 31 0), some (vp 43 0), some (vp 44 0), some (vi l5), some (vi v1), some (vi v5), o8], ([vi 0], Gu (u.1 + u3.1, u.2 + u3.2) x4 m8))) rfl rfl ?_
          exact wp_ret rfl h
set_option maxRecDepth 100000 in
set_option maxHeartbeats 4000000 in
theorem vl_law_2107 {X : MX} {d : Nat} {x : Int64 × UInt64} {m : MI} {Q : MRes → Prop} {u : Nat × Nat} {l5 : Int32} {o6 : Option MV} {o7 : Option MV} {o8 : Option MV} (h : (inb (l5 + 1) X.1 = true ∧ Cl X d 307 [vp 0 0, vi (X.2 (l5 + 1).toNatClampNeg), vp 43 0] (Gu u x m) (fun r => ∃ (v1 : Int32) (m2 : MI) (u3 : Nat × Nat) (x4 : Int64 × UInt64), r = (.inl (some (vi v1)), Gu u3 x4 m2) ∧ (inb (l5 + 1) X.1 = true ∧ Cl X d 239 [vp 31 0, vi (X.2 (l5 + 1).toNatClampNeg)] (Gu (u.1 + u3.1, u.2 + u3.2) x4 m2) (fun r => ∃ (v5 : Int32) (m6 : MI), r = (.inl (some (vi v5)), G x4 m6) ∧ Cl X d 146 [vp 31 0] (Gu (u.1 + u3.1, u.2 + u3.2) x4 m6) (fun r => ∃ (v7 : Int32) (m8 : MI), r = (.inl (some (vi v7)), G x4 m8) ∧ ((v7 = v1 → ((¬ v1 = 0 → Wp X (d + 1) 322 (2999, ([some (vs 0 0), some (vp 0 0), some (vp 31 0), some (vp 43 0), some (vp 44 0), some (vi l5), some (vi v1), some (vi v5), o8], ([], Gu (u.1 + u3.1, u.2 + u3.2) x4 m8))) Q) ∧ (¬ (¬ v1 = 0) → (((lg_cmp (x4.1) (v5.toInt64)) = 0 → Wp X (d + 1) 322 (2999, ([some (vs 0 0), some (vp 0 0), some (vp 31 0), some (vp 43 0), some (vp 44 0), some (vi l5), some (vi v1), some (vi v5), o8], ([], Gu (u.1 + u3.1, u.2 + u3.2) x4 m8))) Q) ∧ (¬ ((lg_cmp (x4.1) (v5.toInt64)) = 0) → Q (.inl (some (vi 0)), Gu (u.1 + u3.1, u.2 + u3.2) x4 m8)))))) ∧ (¬ (v7 = v1) → Q (.inl (some (vi 0)), Gu (u.1 + u3.1, u.2 + u3.2) x4 m8))))))))) : Wp X (d + 1) 322 (2107, ([some (vs 0 0), some (vp 0 0), some (vp 31 0), some (vp 43 0), some (vp 44 0), some (vi l5), o6, o7, o8], ([], Gu u x m))) Q := by
  obtain ⟨hg1_0, h⟩ := h
  refine wp_run 7 (inb (l5 + 1) X.1 && true) (2115, ([some (vs 0 0), some (vp 0 0), some (vp 31 0), some (vp 43 0), some (vp 44 0), some (vi l5), o6, o7, o8], ([vp 43 0, vi (X.2 (l5 + 1).toNatClampNeg), vp 0 0], Gu u x m))) rfl (and_t hg1_0 rfl) ?_
  refine wp_call 307 [vp 0 0, vi (X.2 (l5 + 1).toNatClampNeg), vp 43 0] (2118, ([some (vs 0 0), some (vp 0 0), some (vp 31 0), some (vp 43 0), some (vp 44 0), some (vi l5), o6, o7, o8], ([], Gu u x m))) rfl rfl (Cl.mono h (Nat.le_refl _) ?_)
  rintro r ⟨v1, m2, u3, x4, rfl, h⟩
  · show Wp X (d + 1) 322 (2118, ([some (vs 0 0), some (vp 0 0), some (vp 31 0), some (vp 43 0), some (vp 44 0), some (vi l5), o6, o7, o8], ([vi v1], Gu (u.1 + u3.1, u.2 + u3.2) x4 m2))) Q
    obtain ⟨hg2_0, h⟩ := h
    refine wp_run 7 (inb (l5 + 1) X.1 && true) (2127, ([some (vs 0 0), some (vp 0 0), some (vp 31 0), some (vp 43 0), some (vp 44 0), some (vi l5), some (vi v1), o7, o8], ([vi (X.2 (l5 + 1).toNatClampNeg), vp 31 0], Gu (u.1 + u3.1, u.2 + u3.2) x4 m2))) rfl (and_t hg2_0 rfl) ?_
    refine wp_call 239 [vp 31 0, vi (X.2 (l5 + 1).toNatClampNeg)] (2130, ([some (vs 0 0), some (vp 0 0), some (vp 31 0), some (vp 43 0), some (vp 44 0), some (vi l5), some (vi v1), o7, o8], ([], Gu (u.1 + u3.1, u.2 + u3.2) x4 m2))) rfl rfl (Cl.mono h (Nat.le_refl _) ?_)
    rintro r ⟨v5, m6, rfl, h⟩
    · show Wp X (d + 1) 322 (2130, ([some (vs 0 0), some (vp 0 0), some (vp 31 0), some (vp 43 0), some (vp 44 0), some (vi l5), some (vi v1), o7, o8], ([vi v5], Gu (u.1 + u3.1, u.2 + u3.2) x4 m6))) Q
      refine wp_run 2 true (2133, ([some (vs 0 0), some (vp 0 0), some (vp 31 0), some (vp 43 0), some (vp 44 0), some (vi l5), some (vi v1), some (vi v5), o8], ([vp 31 0], Gu (u.1 + u3.1, u.2 + u3.2) x4 m6))) rfl rfl ?_
      refine wp_call 146 [vp 31 0] (2136, ([some (vs 0 0), some (vp 0 0), some (vp 31 0), some (vp 43 0), some (vp 44 0), some (vi l5), some (vi v1), some (vi v5), o8], ([], Gu (u.1 + u3.1, u.2 + u3.2) x4 m6))) rfl rfl (Cl.mono h (Nat.le_refl _) ?_)
      rintro r ⟨v7, m8, rfl, h⟩
      · show Wp X (d + 1) 322 (2136, ([some (vs 0 0), some (vp 0 0), some (vp 31 0), some (vp 43 0), some (vp 44 0), some (vi l5), some (vi v1), some (vi v5), o8], ([vi v7], Gu (u.1 + u3.1, u.2 + u3.2) x4 m8))) Q
        refine wp_run 2 true ((bif decide (v7 = v1) then 2143 else 2141), ([some (vs 0 0), some (vp 0 0), some (vp 31 0), some (vp 43 0), some (vp 44 0), some (vi l5), some (vi v1), some (vi v5), o8], ([], Gu (u.1 + u3.1, u.2 + u3.2) x4 m8))) rfl rfl ?_
        refine wp_if (v7 = v1) (fun c9 => ?_) (fun c9 => ?_)
        · have h := h.1 c9
          refine wp_run 2 true ((bif decide (¬ v1 = 0) then 2160 else 2148), ([some (vs 0 0), some (vp 0 0), some (vp 31 0), some (vp 43 0), some (vp 44 0), some (vi l5), some (vi v1), some (vi v5), o8], ([], Gu (u.1 + u3.1, u.2 + u3.2) x4 m8))) rfl rfl ?_
          refine wp_if (¬ v1 = 0) (fun c10 => ?_) (fun c10 => ?_)
          · have h := h.1 c10
            refine wp_run 1 true (2999, ([some (vs 0 0), some (vp 0 0), some (vp 31 0), some (vp 43 0), some (vp 44 0), some (vi l5), some (vi v1), some (vi v5), o8], ([], Gu (u.1 + u3.1, u.2 + u3.2) x4 m8))) rfl rfl ?_
            exact h
          · have h := h.2 c10
            refine wp_run 7 true ((bif decide ((lg_cmp (x4.1) (v5.toInt64)) = 0) then 2160 else 2158), ([some (vs 0 0), some (vp 0 0), some (vp 31 0), some (vp 43 0), some (vp 44 0), some (vi l5), some (vi v1), some (vi v5), o8], ([], Gu (u.1 + u3.1, u.2 + u3.2) x4 m8))) rfl rfl ?_
            refine wp_if ((lg_cmp (x4.1) (v5.toInt64)) = 0) (fun c11 => ?_) (fun c11 => ?_)
            · have h := h.1 c11
              refine wp_run 1 true (2999, ([some (vs 0 0), some (vp 0 0), some (vp 31 0), some (vp 43 0), some (vp 44 0), some (vi l5), some (vi v1), some (vi v5), o8], ([], Gu (u.1 + u3.1, u.2 + u3.2) x4 m8))) rfl rfl ?_
              exact h
            · have h := h.2 c11
              refine wp_run 1 true (2159, ([some (vs 0 0), some (vp 0 0), some (vp 31 0), some (vp 43 0), some (vp 44 0), some (vi l5), some (vi v1), some (vi v5), o8], ([vi 0], Gu (u.1 + u3.1, u.2 + u3.2) x4 m8))) rfl rfl ?_
              exact wp_ret rfl h
        · have h := h.2 c9
          refine wp_run 1 true (2142, ([some (vs 0 0), some (vp 0 0), some (vp 31 0), some (vp 43 0), some (vp 44 0), some (vi l5), some (vi v1), some (vi v5), o8], ([vi 0], Gu (u.1 + u3.1, u.2 + u3.2) x4 m8))) rfl rfl ?_
          exact wp_ret rfl h
set_option maxRecDepth 100000 in
set_option maxHeartbeats 4000000 in
theorem vl_law_2163 {X : MX} {d : Nat} {x : Int64 × UInt64} {m : MI} {Q : MRes → Prop} {u : Nat × Nat} {l5 : Int32} {o6 : Option MV} {o7 : Option MV} {o8 : Option MV} (h : (inb (l5 + 1) X.1 = true ∧ Cl X d 308 [vp 0 0, vi (X.2 (l5 + 1).toNatClampNeg), vp 43 0] (Gu u x m) (fun r => ∃ (v1 : Int32) (m2 : MI) (u3 : Nat × Nat) (x4 : Int64 × UInt64), r = (.inl (some (vi v1)), Gu u3 x4 m2) ∧ (inb (l5 + 1) X.1 = true ∧ Cl X d 240 [vp 31 0, vi (X.2 (l5 + 1).toNatClampNeg)] (Gu (u.1 + u3.1, u.2 + u3.2) x4 m2) (fun r => ∃ (v5 : Int32) (m6 : MI), r = (.inl (some (vi v5)), G x4 m6) ∧ Cl X d 146 [vp 31 0] (Gu (u.1 + u3.1, u.2 + u3.2) x4 m6) (fun r => ∃ (v7 : Int32) (m8 : MI), r = (.inl (some (vi v7)), G x4 m8) ∧ ((v7 = v1 → ((¬ v1 = 0 → Wp X (d + 1) 322 (2999, ([some (vs 0 0), some (vp 0 0), some (vp 31 0), some (vp 43 0), some (vp 44 0), some (vi l5), some (vi v1), some (vi v5), o8], ([], Gu (u.1 + u3.1, u.2 + u3.2) x4 m8))) Q) ∧ (¬ (¬ v1 = 0) → (((lg_cmp (x4.1) (v5.toInt64)) = 0 → Wp X (d + 1) 322 (2999, ([some (vs 0 0), some (vp 0 0), some (vp 31 0), some (vp 43 0), some (vp 44 0), some (vi l5), some (vi v1), some (vi v5), o8], ([], Gu (u.1 + u3.1, u.2 + u3.2) x4 m8))) Q) ∧ (¬ ((lg_cmp (x4.1) (v5.toInt64)) = 0) → Q (.inl (some (vi 0)), Gu (u.1 + u3.1, u.2 + u3.2) x4 m8)))))) ∧ (¬ (v7 = v1) → Q (.inl (some (vi 0)), Gu (u.1 + u3.1, u.2 + u3.2) x4 m8))))))))) : Wp X (d + 1) 322 (2163, ([some (vs 0 0), some (vp 0 0), some (vp 31 0), some (vp 43 0), some (vp 44 0), some (vi l5), o6, o7, o8], ([], Gu u x m))) Q := by
  obtain ⟨hg1_0, h⟩ := h
  refine wp_run 7 (inb (l5 + 1) X.1 && true) (2171, ([some (vs 0 0), some (vp 0 0), some (vp 31 0), some (vp 43 0), some (vp 44 0), some (vi l5), o6, o7, o8], ([vp 43 0, vi (X.2 (l5 + 1).toNatClampNeg), vp 0 0], Gu u x m))) rfl (and_t hg1_0 rfl) ?_
  refine wp_call 308 [vp 0 0, vi (X.2 (l5 + 1).toNatClampNeg), vp 43 0] (2174, ([some (vs 0 0), some (vp 0 0), some (vp 31 0), some (vp 43 0), some (vp 44 0), some (vi l5), o6, o7, o8], ([], Gu u x m))) rfl rfl (Cl.mono h (Nat.le_refl _) ?_)
  rintro r ⟨v1, m2, u3, x4, rfl, h⟩
  · show Wp X (d + 1) 322 (2174, ([some (vs 0 0), some (vp 0 0), some (vp 31 0), some (vp 43 0), some (vp 44 0), some (vi l5), o6, o7, o8], ([vi v1], Gu (u.1 + u3.1, u.2 + u3.2) x4 m2))) Q
    obtain ⟨hg2_0, h⟩ := h
    refine wp_run 7 (inb (l5 + 1) X.1 && true) (2183, ([some (vs 0 0), some (vp 0 0), some (vp 31 0), some (vp 43 0), some (vp 44 0), some (vi l5), some (vi v1), o7, o8], ([vi (X.2 (l5 + 1).toNatClampNeg), vp 31 0], Gu (u.1 + u3.1, u.2 + u3.2) x4 m2))) rfl (and_t hg2_0 rfl) ?_
    refine wp_call 240 [vp 31 0, vi (X.2 (l5 + 1).toNatClampNeg)] (2186, ([some (vs 0 0), some (vp 0 0), some (vp 31 0), some (vp 43 0), some (vp 44 0), some (vi l5), some (vi v1), o7, o8], ([], Gu (u.1 + u3.1, u.2 + u3.2) x4 m2))) rfl rfl (Cl.mono h (Nat.le_refl _) ?_)
    rintro r ⟨v5, m6, rfl, h⟩
    · show Wp X (d + 1) 322 (2186, ([some (vs 0 0), some (vp 0 0), some (vp 31 0), some (vp 43 0), some (vp 44 0), some (vi l5), some (vi v1), o7, o8], ([vi v5], Gu (u.1 + u3.1, u.2 + u3.2) x4 m6))) Q
      refine wp_run 2 true (2189, ([some (vs 0 0), some (vp 0 0), some (vp 31 0), some (vp 43 0), some (vp 44 0), some (vi l5), some (vi v1), some (vi v5), o8], ([vp 31 0], Gu (u.1 + u3.1, u.2 + u3.2) x4 m6))) rfl rfl ?_
      refine wp_call 146 [vp 31 0] (2192, ([some (vs 0 0), some (vp 0 0), some (vp 31 0), some (vp 43 0), some (vp 44 0), some (vi l5), some (vi v1), some (vi v5), o8], ([], Gu (u.1 + u3.1, u.2 + u3.2) x4 m6))) rfl rfl (Cl.mono h (Nat.le_refl _) ?_)
      rintro r ⟨v7, m8, rfl, h⟩
      · show Wp X (d + 1) 322 (2192, ([some (vs 0 0), some (vp 0 0), some (vp 31 0), some (vp 43 0), some (vp 44 0), some (vi l5), some (vi v1), some (vi v5), o8], ([vi v7], Gu (u.1 + u3.1, u.2 + u3.2) x4 m8))) Q
        refine wp_run 2 true ((bif decide (v7 = v1) then 2199 else 2197), ([some (vs 0 0), some (vp 0 0), some (vp 31 0), some (vp 43 0), some (vp 44 0), some (vi l5), some (vi v1), some (vi v5), o8], ([], Gu (u.1 + u3.1, u.2 + u3.2) x4 m8))) rfl rfl ?_
        refine wp_if (v7 = v1) (fun c9 => ?_) (fun c9 => ?_)
        · have h := h.1 c9
          refine wp_run 2 true ((bif decide (¬ v1 = 0) then 2216 else 2204), ([some (vs 0 0), some (vp 0 0), some (vp 31 0), some (vp 43 0), some (vp 44 0), some (vi l5), some (vi v1), some (vi v5), o8], ([], Gu (u.1 + u3.1, u.2 + u3.2) x4 m8))) rfl rfl ?_
          refine wp_if (¬ v1 = 0) (fun c10 => ?_) (fun c10 => ?_)
          · have h := h.1 c10
            refine wp_run 1 true (2999, ([some (vs 0 0), some (vp 0 0), some (vp 31 0), some (vp 43 0), some (vp 44 0), some (vi l5), some (vi v1), some (vi v5), o8], ([], Gu (u.1 + u3.1, u.2 + u3.2) x4 m8))) rfl rfl ?_
            exact h
          · have h := h.2 c10
            refine wp_run 7 true ((bif decide ((lg_cmp (x4.1) (v5.toInt64)) = 0) then 2216 else 2214), ([some (vs 0 0), some (vp 0 0), some (vp 31 0), some (vp 43 0), some (vp 44 0), some (vi l5), some (vi v1), some (vi v5), o8], ([], Gu (u.1 + u3.1, u.2 + u3.2) x4 m8))) rfl rfl ?_
            refine wp_if ((lg_cmp (x4.1) (v5.toInt64)) = 0) (fun c11 => ?_) (fun c11 => ?_)
            · have h := h.1 c11
              refine wp_run 1 true (2999, ([some (vs 0 0), some (vp 0 0), some (vp 31 0), some (vp 43 0), some (vp 44 0), some (vi l5), some (vi v1), some (vi v5), o8], ([], Gu (u.1 + u3.1, u.2 + u3.2) x4 m8))) rfl rfl ?_
              exact h
            · have h := h.2 c11
              refine wp_run 1 true (2215, ([some (vs 0 0), some (vp 0 0), some (vp 31 0), some (vp 43 0), some (vp 44 0), some (vi l5), some (vi v1), some (vi v5), o8], ([vi 0], Gu (u.1 + u3.1, u.2 + u3.2) x4 m8))) rfl rfl ?_
              exact wp_ret rfl h
        · have h := h.2 c9
          refine wp_run 1 true (2198, ([some (vs 0 0), some (vp 0 0), some (vp 31 0), some (vp 43 0), some (vp 44 0), some (vi l5), some (vi v1), some (vi v5), o8], ([vi 0], Gu (u.1 + u3.1, u.2 + u3.2) x4 m8))) rfl rfl ?_
          exact wp_ret rfl h
set_option maxRecDepth 100000 in
set_option maxHeartbeats 4000000 in
theorem vl_law_2219 {X : MX} {d : Nat} {x : Int64 × UInt64} {m : MI} {Q : MRes → Prop} {u : Nat × Nat} {l5 : Int32} {o6 : Option MV} {o7 : Option MV} {o8 : Option MV} (h : (inb (l5 + 1) X.1 = true ∧ inb (l5 + 2) X.1 = true ∧ Cl X d 309 [vp 0 0, vi (X.2 (l5 + 1).toNatClampNeg), vi (X.2 (l5 + 2).toNatClampNeg), vp 43 0] (Gu u x m) (fun r => ∃ (v1 : Int32) (m2 : MI) (u3 : Nat × Nat) (x4 : Int64 × UInt64), r = (.inl (some (vi v1)), Gu u3 x4 m2) ∧ (inb (l5 + 1) X.1 = true ∧ inb (l5 + 2) X.1 = true ∧ Cl X d 241 [vp 31 0, vi (X.2 (l5 + 1).toNatClampNeg), vi (X.2 (l5 + 2).toNatClampNeg)] (Gu (u.1 + u3.1, u.2 + u3.2) x4 m2) (fun r => ∃ (v5 : Int32) (m6 : MI), r = (.inl (some (vi v5)), G x4 m6) ∧ Cl X d 146 [vp 31 0] (Gu (u.1 + u3.1, u.2 + u3.2) x4 m6) (fun r => ∃ (v7 : Int32) (m8 : MI), r = (.inl (some (vi v7)), G x4 m8) ∧ ((v7 = v1 → ((¬ v1 = 0 → Wp X (d + 1) 322 (2999, ([some (vs 0 0), some (vp 0 0), some (vp 31 0), some (vp 43 0), some (vp 44 0), some (vi l5), some (vi v1), some (vi v5), o8], ([], Gu (u.1 + u3.1, u.2 + u3.2) x4 m8))) Q) ∧ (¬ (¬ v1 = 0) → (((lg_cmp (x4.1) (v5.toInt64)) = 0 → Wp X (d + 1) 322 (2999, ([some (vs 0 0), some (vp 0 0), some (vp 31 0), some (vp 43 0), some (vp 44 0), some (vi l5), some (vi v1), some (vi v5), o8], ([], Gu (u.1 + u3.1, u.2 + u3.2) x4 m8))) Q) ∧ (¬ ((lg_cmp (x4.1) (v5.toInt64)) = 0) → Q (.inl (some (vi 0)), Gu (u.1 + u3.1, u.2 + u3.2) x4 m8)))))) ∧ (¬ (v7 = v1) → Q (.inl (some (vi 0)), Gu (u.1 + u3.1, u.2 + u3.2) x4 m8))))))))) : Wp X (d + 1) 322 (2219, ([some (vs 0 0), some (vp 0 0), some (vp 31 0), some (vp 43 0), some (vp 44 0), some (vi l5), o6, o7, o8], ([], Gu u x m))) Q := by
  obtain ⟨hg1_0, hg1_1, h⟩ := h
  refine wp_run 12 (inb (l5 + 2) X.1 && (inb (l5 + 1) X.1 && true)) (2233, ([some (vs 0 0), some (vp 0 0), some (vp 31 0), some (vp 43 0), some (vp 44 0), some (vi l5), o6, o7, o8], ([vp 43 0, vi (X.2 (l5 + 2).toNatClampNeg), vi (X.2 (l5 + 1).toNatClampNeg), vp 0 0], Gu u x m))) rfl (and_t hg1_1 (and_t hg1_0 rfl)) ?_
  refine wp_call 309 [vp 0 0, vi (X.2 (l5 + 1).toNatClampNeg), vi (X.2 (l5 + 2).toNatClampNeg), vp 43 0] (2236, ([some (vs 0 0), some (vp 0 0), some (vp 31 0), some (vp 43 0), some (vp 44 0), some (vi l5), o6, o7, o8], ([], Gu u x m))) rfl rfl (Cl.mono h (Nat.le_refl _) ?_)
  rintro r ⟨v1, m2, u3, x4, rfl, h⟩
  · show Wp X (d + 1) 322 (2236, ([some (vs 0 0), some (vp 0 0), some (vp 31 0), some (vp 43 0), some (vp 44 0), some (vi l5), o6, o7, o8], ([vi v1], Gu (u.1 + u3.1, u.2 + u3.2) x4 m2))) Q
    obtain ⟨hg2_0, hg2_1, h⟩ := h
    refine wp_run 12 (inb (l5 + 2) X.1 && (inb (l5 + 1) X.1 && true)) (2251, ([some (vs 0 0), some (vp 0 0), some (vp 31 0), some (vp 43 0), some (vp 44 0), some (vi l5), some (vi v1), o7, o8], ([vi (X.2 (l5 + 2).toNatClampNeg), vi (X.2 (l5 + 1).toNatClampNeg), vp 31 0], Gu (u.1 + u3.1, u.2 + u3.2) x4 m2))) rfl (and_t hg2_1 (and_t hg2_0 rfl)) ?_
    refine wp_call 241 [vp 31 0, vi (X.2 (l5 + 1).toNatClampNeg), vi (X.2 (l5 + 2).toNatClampNeg)] (2254, ([some (vs 0 0), some (vp 0 0), some (vp 31 0), some (vp 43 0), some (vp 44 0), some (vi l5), some (vi v1), o7, o8], ([], Gu (u.1 + u3.1, u.2 + u3.2) x4 m2))) rfl rfl (Cl.mono h (Nat.le_refl _) ?_)
    rintro r ⟨v5, m6, rfl, h⟩
    · show Wp X (d + 1) 322 (2254, ([some (vs 0 0), some (vp 0 0), some (vp 31 0), some (vp 43 0), some (vp 44 0), some (vi l5), some (vi v1), o7, o8], ([vi v5], Gu (u.1 + u3.1, u.2 + u3.2) x4 m6))) Q
      refine wp_run 2 true (2257, ([some (vs 0 0), some (vp 0 0), some (vp 31 0), some (vp 43 0), some (vp 44 0), some (vi l5), some (vi v1), some (vi v5), o8], ([vp 31 0], Gu (u.1 + u3.1, u.2 + u3.2) x4 m6))) rfl rfl ?_
      refine wp_call 146 [vp 31 0] (2260, ([some (vs 0 0), some (vp 0 0), some (vp 31 0), some (vp 43 0), some (vp 44 0), some (vi l5), some (vi v1), some (vi v5), o8], ([], Gu (u.1 + u3.1, u.2 + u3.2) x4 m6))) rfl rfl (Cl.mono h (Nat.le_refl _) ?_)
      rintro r ⟨v7, m8, rfl, h⟩
      · show Wp X (d + 1) 322 (2260, ([some (vs 0 0), some (vp 0 0), some (vp 31 0), some (vp 43 0), some (vp 44 0), some (vi l5), some (vi v1), some (vi v5), o8], ([vi v7], Gu (u.1 + u3.1, u.2 + u3.2) x4 m8))) Q
        refine wp_run 2 true ((bif decide (v7 = v1) then 2267 else 2265), ([some (vs 0 0), some (vp 0 0), some (vp 31 0), some (vp 43 0), some (vp 44 0), some (vi l5), some (vi v1), some (vi v5), o8], ([], Gu (u.1 + u3.1, u.2 + u3.2) x4 m8))) rfl rfl ?_
        refine wp_if (v7 = v1) (fun c9 => ?_) (fun c9 => ?_)
        · have h := h.1 c9
          refine wp_run 2 true ((bif decide (¬ v1 = 0) then 2284 else 2272), ([some (vs 0 0), some (vp 0 0), some (vp 31 0), some (vp 43 0), some (vp 44 0), some (vi l5), some (vi v1), some (vi v5), o8], ([], Gu (u.1 + u3.1, u.2 + u3.2) x4 m8))) rfl rfl ?_
          refine wp_if (¬ v1 = 0) (fun c10 => ?_) (fun c10 => ?_)
          · have h := h.1 c10
            refine wp_run 1 true (2999, ([some (vs 0 0), some (vp 0 0), some (vp 31 0), some (vp 43 0), some (vp 44 0), some (vi l5), some (vi v1), some (vi v5), o8], ([], Gu (u.1 + u3.1, u.2 + u3.2) x4 m8))) rfl rfl ?_
            exact h
          · have h := h.2 c10
            refine wp_run 7 true ((bif decide ((lg_cmp (x4.1) (v5.toInt64)) = 0) then 2284 else 2282), ([some (vs 0 0), some (vp 0 0), some (vp 31 0), some (vp 43 0), some (vp 44 0), some (vi l5), some (vi v1), some (vi v5), o8], ([], Gu (u.1 + u3.1, u.2 + u3.2) x4 m8))) rfl rfl ?_
            refine wp_if ((lg_cmp (x4.1) (v5.toInt64)) = 0) (fun c11 => ?_) (fun c11 => ?_)
            · have h := h.1 c11
              refine wp_run 1 true (2999, ([some (vs 0 0), some (vp 0 0), some (vp 31 0), some (vp 43 0), some (vp 44 0), some (vi l5), some (vi v1), some (vi v5), o8], ([], Gu (u.1 + u3.1, u.2 + u3.2) x4 m8))) rfl rfl ?_
              exact h
            · have h := h.2 c11
              refine wp_run 1 true (2283, ([some (vs 0 0), some (vp 0 0), some (vp 31 0), some (vp 43 0), some (vp 44 0), some (vi l5), some (vi v1), some (vi v5), o8], ([vi 0], Gu (u.1 + u3.1, u.2 + u3.2) x4 m8))) rfl rfl ?_
              exact wp_ret rfl h
        · have h := h.2 c9
          refine wp_run 1 true (2266, ([some (vs 0 0), some (vp 0 0), some (vp 31 0), some (vp 43 0), some (vp 44 0), some (vi l5), some (vi v1), some (vi v5), o8], ([vi 0], Gu (u.1 + u3.1, u.2 + u3.2) x4 m8))) rfl rfl ?_
          exact wp_ret rfl h
set_option maxRecDepth 100000 in
set_option maxHeartbeats 4000000 in
theorem vl_law_2287 {X : MX} {d : Nat} {x : Int64 × UInt64} {m : MI} {Q : MRes → Prop} {u : Nat × Nat} {l5 : Int32} {o6 : Option MV} {o7 : Option MV} {o8 : Option MV} (h : Cl X d 38 [vp 0 0] (Gu u x m) (fun r => ∃ (v1 : Int32) (m2 : MI), r = (.inl (some (vi v1)), G x m2) ∧ Cl X d 242 [vp 31 0] (Gu u x m2) (fun r => ∃ (v3 : Int32) (m4 : MI), r = (.inl (some (vi v3)), G x m4) ∧ ((v1 = v3 → Wp X (d + 1) 322 (2999, ([some (vs 0 0), some (vp 0 0), some (vp 31 0), some (vp 43 0), some (vp 44 0), some (vi l5), o6, o7, o8], ([], Gu u x m4))) Q) ∧ (¬ (v1 = v3) → Q (.inl (some (vi 0)), Gu u x m4)))))) : Wp X (d + 1) 322 (2287, ([some (vs 0 0), some (vp 0 0), some (vp 31 0), some (vp 43 0), some (vp 44 0), some (vi l5), o6, o7, o8], ([], Gu u x m))) Q := by
  refine wp_run 1 true (2288, ([some (vs 0 0), some (vp 0 0), some (vp 31 0), some (vp 43 0), some (vp 44 0), some (vi l5), o6, o7, o8], ([vp 0 0], Gu u x m))) rfl rfl ?_
  refine wp_call 38 [vp 0 0] (2291, ([some (vs 0 0), some (vp 0 0), some (vp 31 0), some (vp 43 0), some (vp 44 0), some (vi l5), o6, o7, o8], ([], Gu u x m))) rfl rfl (Cl.mono h (Nat.le_refl _) ?_)
  rintro r ⟨v1, m2, rfl, h⟩
  · show Wp X (d + 1) 322 (2291, ([some (vs 0 0), some (vp 0 0), some (vp 31 0), some (vp 43 0), some (vp 44 0), some (vi l5), o6, o7, o8], ([vi v1], Gu u x m2))) Q
    refine wp_run 1 true (2292, ([some (vs 0 0), some (vp 0 0), some (vp 31 0), some (vp 43 0), some (vp 44 0), some (vi l5), o6, o7, o8], ([vp 31 0, vi v1], Gu u x m2))) rfl rfl ?_
    refine wp_call 242 [vp 31 0] (2295, ([some (vs 0 0), some (vp 0 0), some (vp 31 0), some (vp 43 0), some (vp 44 0), some (vi l5), o6, o7, o8], ([vi v1], Gu u x m2))) rfl rfl (Cl.mono h (Nat.le_refl _) ?_)
    rintro r ⟨v3, m4, rfl, h⟩
    · show Wp X (d + 1) 322 (2295, ([some (vs 0 0), some (vp 0 0), some (vp 31 0), some (vp 43 0), some (vp 44 0), some (vi l5), o6, o7, o8], ([vi v3, vi v1], Gu u x m4))) Q
      refine wp_run 1 true ((bif decide (v1 = v3) then 2999 else 2298), ([some (vs 0 0), some (vp 0 0), some (vp 31 0), some (vp 43 0), some (vp 44 0), some (vi l5), o6, o7, o8], ([], Gu u x m4))) rfl rfl ?_
      refine wp_if (v1 = v3) (fun c5 => ?_) (fun c5 => ?_)
      · have h := h.1 c5
        exact h
      · have h := h.2 c5
        refine wp_run 1 true (2299, ([some (vs 0 0), some (vp 0 0), some (vp 31 0), some (vp 43 0), some (vp 44 0), some (vi l5), o6, o7, o8], ([vi 0], Gu u x m4))) rfl rfl ?_
        exact wp_ret rfl h
set_option maxRecDepth 100000 in
set_option maxHeartbeats 4000000 in
theorem vl_law_2300 {X : MX} {d : Nat} {x : Int64 × UInt64} {m : MI} {Q : MRes → Prop} {u : Nat × Nat} {l5 : Int32} {o6 : Option MV} {o7 : Option MV} {o8 : Option MV} (h : Cl X d 39 [vp 0 0] (Gu u x m) (fun r => ∃ (v1 : Int32) (m2 : MI), r = (.inl (some (vi v1)), G x m2) ∧ Cl X d 243 [vp 31 0] (Gu u x m2) (fun r => ∃ (v3 : Int32) (m4 : MI), r = (.inl (some (vi v3)), G x m4) ∧ ((v1 = v3 → Wp X (d + 1) 322 (2999, ([some (vs 0 0), some (vp 0 0), some (vp 31 0), some (vp 43 0), some (vp 44 0), some (vi l5), o6, o7, o8], ([], Gu u x m4))) Q) ∧ (¬ (v1 = v3) → Q (.inl (some (vi 0)), Gu u x m4)))))) : Wp X (d + 1) 322 (2300, ([some (vs 0 0), some (vp 0 0), some (vp 31 0), some (vp 43 0), some (vp 44 0), some (vi l5), o6, o7, o8], ([], Gu u x m))) Q := by
  refine wp_run 1 true (2301, ([some (vs 0 0), some (vp 0 0), some (vp 31 0), some (vp 43 0), some (vp 44 0), some (vi l5), o6, o7, o8], ([vp 0 0], Gu u x m))) rfl rfl ?_
  refine wp_call 39 [vp 0 0] (2304, ([some (vs 0 0), some (vp 0 0), some (vp 31 0), some (vp 43 0), some (vp 44 0), some (vi l5), o6, o7, o8], ([], Gu u x m))) rfl rfl (Cl.mono h (Nat.le_refl _) ?_)
  rintro r ⟨v1, m2, rfl, h⟩
  · show Wp X (d + 1) 322 (2304, ([some (vs 0 0), some (vp 0 0), some (vp 31 0), some (vp 43 0), some (vp 44 0), some (vi l5), o6, o7, o8], ([vi v1], Gu u x m2))) Q
    refine wp_run 1 true (2305, ([some (vs 0 0), some (vp 0 0), some (vp 31 0), some (vp 43 0), some (vp 44 0), some (vi l5), o6, o7, o8], ([vp 31 0, vi v1], Gu u x m2))) rfl rfl ?_
    refine wp_call 243 [vp 31 0] (2308, ([some (vs 0 0), some (vp 0 0), some (vp 31 0), some (vp 43 0), some (vp 44 0), some (vi l5), o6, o7, o8], ([vi v1], Gu u x m2))) rfl rfl (Cl.mono h (Nat.le_refl _) ?_)
    rintro r ⟨v3, m4, rfl, h⟩
    · show Wp X (d + 1) 322 (2308, ([some (vs 0 0), some (vp 0 0), some (vp 31 0), some (vp 43 0), some (vp 44 0), some (vi l5), o6, o7, o8], ([vi v3, vi v1], Gu u x m4))) Q
      refine wp_run 1 true ((bif decide (v1 = v3) then 2999 else 2311), ([some (vs 0 0), some (vp 0 0), some (vp 31 0), some (vp 43 0), some (vp 44 0), some (vi l5), o6, o7, o8], ([], Gu u x m4))) rfl rfl ?_
      refine wp_if (v1 = v3) (fun c5 => ?_) (fun c5 => ?_)
      · have h := h.1 c5
        exact h
      · have h := h.2 c5
        refine wp_run 1 true (2312, ([some (vs 0 0), some (vp 0 0), some (vp 31 0), some (vp 43 0), some (vp 44 0), some (vi l5), o6, o7, o8], ([vi 0], Gu u x m4))) rfl rfl ?_
        exact wp_ret rfl h
set_option maxRecDepth 100000 in
set_option maxHeartbeats 4000000 in
theorem vl_law_2313 {X : MX} {d : Nat} {x : Int64 × UInt64} {m : MI} {Q : MRes → Prop} {u : Nat × Nat} {l5 : Int32} {o6 : Option MV} {o7 : Option MV} {o8 : Option MV} (h : Cl X d 40 [vp 0 0] (Gu u x m) (fun r => ∃ (v1 : Int32) (m2 : MI), r = (.inl (some (vi v1)), G x m2) ∧ Cl X d 244 [vp 31 0] (Gu u x m2) (fun r => ∃ (v3 : Int32) (m4 : MI), r = (.inl (some (vi v3)), G x m4) ∧ ((v1 = v3 → Wp X (d + 1) 322 (2999, ([some (vs 0 0), some (vp 0 0), some (vp 31 0), some (vp 43 0), some (vp 44 0), some (vi l5), o6, o7, o8], ([], Gu u x m4))) Q) ∧ (¬ (v1 = v3) → Q (.inl (some (vi 0)), Gu u x m4)))))) : Wp X (d + 1) 322 (2313, ([some (vs 0 0), some (vp 0 0), some (vp 31 0), some (vp 43 0), some (vp 44 0), some (vi l5), o6, o7, o8], ([], Gu u x m))) Q := by
  refine wp_run 1 true (2314, ([some (vs 0 0), some (vp 0 0), some (vp 31 0), some (vp 43 0), some (vp 44 0), some (vi l5), o6, o7, o8], ([vp 0 0], Gu u x m))) rfl rfl ?_
  refine wp_call 40 [vp 0 0] (2317, ([some (vs 0 0), some (vp 0 0), some (vp 31 0), some (vp 43 0), some (vp 44 0), some (vi l5), o6, o7, o8], ([], Gu u x m))) rfl rfl (Cl.mono h (Nat.le_refl _) ?_)
  rintro r ⟨v1, m2, rfl, h⟩
  · show Wp X (d + 1) 322 (2317, ([some (vs 0 0), some (vp 0 0), some (vp 31 0), some (vp 43 0), some (vp 44 0), some (vi l5), o6, o7, o8], ([vi v1], Gu u x m2))) Q
    refine wp_run 1 true (2318, ([some (vs 0 0), some (vp 0 0), some (vp 31 0), some (vp 43 0), some (vp 44 0), some (vi l5), o6, o7, o8], ([vp 31 0, vi v1], Gu u x m2))) rfl rfl ?_
    refine wp_call 244 [vp 31 0] (2321, ([some (vs 0 0), some (vp 0 0), some (vp 31 0), some (vp 43 0), some (vp 44 0), some (vi l5), o6, o7, o8], ([vi v1], Gu u x m2))) rfl rfl (Cl.mono h (Nat.le_refl _) ?_)
    rintro r ⟨v3, m4, rfl, h⟩
    · show Wp X (d + 1) 322 (2321, ([some (vs 0 0), some (vp 0 0), some (vp 31 0), some (vp 43 0), some (vp 44 0), some (vi l5), o6, o7, o8], ([vi v3, vi v1], Gu u x m4))) Q
      refine wp_run 1 true ((bif decide (v1 = v3) then 2999 else 2324), ([some (vs 0 0), some (vp 0 0), some (vp 31 0), some (vp 43 0), some (vp 44 0), some (vi l5), o6, o7, o8], ([], Gu u x m4))) rfl rfl ?_
      refine wp_if (v1 = v3) (fun c5 => ?_) (fun c5 => ?_)
      · have h := h.1 c5
        exact h
      · have h := h.2 c5
        refine wp_run 1 true (2325, ([some (vs 0 0), some (vp 0 0), some (vp 31 0), some (vp 43 0), some (vp 44 0), some (vi l5), o6, o7, o8], ([vi 0], Gu u x m4))) rfl rfl ?_
        exact wp_ret rfl h
set_option maxRecDepth 100000 in
set_option maxHeartbeats 4000000 in
theorem vl_law_2326 {X : MX} {d : Nat} {x : Int64 × UInt64} {m : MI} {Q : MRes → Prop} {u : Nat × Nat} {l5 : Int32} {o6 : Option MV} {o7 : Option MV} {o8 : Option MV} (h : Cl X d 41 [vp 0 0] (Gu u x m) (fun r => ∃ (v1 : Int32) (m2 : MI), r = (.inl (some (vi v1)), G x m2) ∧ Cl X d 245 [vp 31 0] (Gu u x m2) (fun r => ∃ (v3 : Int32) (m4 : MI), r = (.inl (some (vi v3)), G x m4) ∧ ((v1 = v3 → Wp X (d + 1) 322 (2999, ([some (vs 0 0), some (vp 0 0), some (vp 31 0), some (vp 43 0), some (vp 44 0), some (vi l5), o6, o7, o8], ([], Gu u x m4))) Q) ∧ (¬ (v1 = v3) → Q (.inl (some (vi 0)), Gu u x m4)))))) : Wp X (d + 1) 322 (2326, ([some (vs 0 0), some (vp 0 0), some (vp 31 0), some (vp 43 0), some (vp 44 0), some (vi l5), o6, o7, o8], ([], Gu u x m))) Q := by
  refine wp_run 1 true (2327, ([some (vs 0 0), some (vp 0 0), some (vp 31 0), some (vp 43 0), some (vp 44 0), some (vi l5), o6, o7, o8], ([vp 0 0], Gu u x m))) rfl rfl ?_
  refine wp_call 41 [vp 0 0] (2330, ([some (vs 0 0), some (vp 0 0), some (vp 31 0), some (vp 43 0), some (vp 44 0), some (vi l5), o6, o7, o8], ([], Gu u x m))) rfl rfl (Cl.mono h (Nat.le_refl _) ?_)
  rintro r ⟨v1, m2, rfl, h⟩
  · show Wp X (d + 1) 322 (2330, ([some (vs 0 0), some (vp 0 0), some (vp 31 0), some (vp 43 0), some (vp 44 0), some (vi l5), o6, o7, o8], ([vi v1], Gu u x m2))) Q
    refine wp_run 1 true (2331, ([some (vs 0 0), some (vp 0 0), some (vp 31 0), some (vp 43 0), some (vp 44 0), some (vi l5), o6, o7, o8], ([vp 31 0, vi v1], Gu u x m2))) rfl rfl ?_
    refine wp_call 245 [vp 31 0] (2334, ([some (vs 0 0), some (vp 0 0), some (vp 31 0), some (vp 43 0), some (vp 44 0), some (vi l5), o6, o7, o8], ([vi v1], Gu u x m2))) rfl rfl (Cl.mono h (Nat.le_refl _) ?_)
    rintro r ⟨v3, m4, rfl, h⟩
    · show Wp X (d + 1) 322 (2334, ([some (vs 0 0), some (vp 0 0), some (vp 31 0), some (vp 43 0), some (vp 44 0), some (vi l5), o6, o7, o8], ([vi v3, vi v1], Gu u x m4))) Q
      refine wp_run 1 true ((bif decide (v1 = v3) then 2999 else 2337), ([some (vs 0 0), some (vp 0 0), some (vp 31 0), some (vp 43 0), some (vp 44 0), some (vi l5), o6, o7, o8], ([], Gu u x m4))) rfl rfl ?_
      refine wp_if (v1 = v3) (fun c5 => ?_) (fun c5 => ?_)
      · have h := h.1 c5
        exact h
      · have h := h.2 c5
        refine wp_run 1 true (2338, ([some (vs 0 0), some (vp 0 0), some (vp 31 0), some (vp 43 0), some (vp 44 0), some (vi l5), o6, o7, o8], ([vi 0], Gu u x m4))) rfl rfl ?_
        exact wp_ret rfl h
set_option maxRecDepth 100000 in
set_option maxHeartbeats 4000000 in
theorem vl_law_2339 {X : MX} {d : Nat} {x : Int64 × UInt64} {m : MI} {Q : MRes → Prop} {u : Nat × Nat} {l5 : Int32} {o6 : Option MV} {o7 : Option MV} {o8 : Option MV} (h : Cl X d 42 [vp 0 0] (Gu u x m) (fun r => ∃ (v1 : Int32) (m2 : MI), r = (.inl (some (vi v1)), G x m2) ∧ Cl X d 246 [vp 31 0] (Gu u x m2) (fun r => ∃ (v3 : Int32) (m4 : MI), r = (.inl (some (vi v3)), G x m4) ∧ ((v1 = v3 → Wp X (d + 1) 322 (2999, ([some (vs 0 0), some (vp 0 0), some (vp 31 0), some (vp 43 0), some (vp 44 0), some (vi l5), o6, o7, o8], ([], Gu u x m4))) Q) ∧ (¬ (v1 = v3) → Q (.inl (some (vi 0)), Gu u x m4)))))) : Wp X (d + 1) 322 (2339, ([some (vs 0 0), some (vp 0 0), some (vp 31 0), some (vp 43 0), some (vp 44 0), some (vi l5), o6, o7, o8], ([], Gu u x m))) Q := by
  refine wp_run 1 true (2340, ([some (vs 0 0), some (vp 0 0), some (vp 31 0), some (vp 43 0), some (vp 44 0), some (vi l5), o6, o7, o8], ([vp 0 0], Gu u x m))) rfl rfl ?_
  refine wp_call 42 [vp 0 0] (2343, ([some (vs 0 0), some (vp 0 0), some (vp 31 0), some (vp 43 0), some (vp 44 0), some (vi l5), o6, o7, o8], ([], Gu u x m))) rfl rfl (Cl.mono h (Nat.le_refl _) ?_)
  rintro r ⟨v1, m2, rfl, h⟩
  · show Wp X (d + 1) 322 (2343, ([some (vs 0 0), some (vp 0 0), some (vp 31 0), some (vp 43 0), some (vp 44 0), some (vi l5), o6, o7, o8], ([vi v1], Gu u x m2))) Q
    refine wp_run 1 true (2344, ([some (vs 0 0), some (vp 0 0), some (vp 31 0), some (vp 43 0), some (vp 44 0), some (vi l5), o6, o7, o8], ([vp 31 0, vi v1], Gu u x m2))) rfl rfl ?_
    refine wp_call 246 [vp 31 0] (2347, ([some (vs 0 0), some (vp 0 0), some (vp 31 0), some (vp 43 0), some (vp 44 0), some (vi l5), o6, o7, o8], ([vi v1], Gu u x m2))) rfl rfl (Cl.mono h (Nat.le_refl _) ?_)
    rintro r ⟨v3, m4, rfl, h⟩
    · show Wp X (d + 1) 322 (2347, ([some (vs 0 0), some (vp 0 0), some (vp 31 0), some (vp 43 0), some (vp 44 0), some (vi l5), o6, o7, o8], ([vi v3, vi v1], Gu u x m4))) Q
      refine wp_run 1 true ((bif decide (v1 = v3) then 2999 else 2350), ([some (vs 0 0), some (vp 0 0), some (vp 31 0), some (vp 43 0), some (vp 44 0), some (vi l5), o6, o7, o8], ([], Gu u x m4))) rfl rfl ?_
      refine wp_if (v1 = v3) (fun c5 => ?_) (fun c5 => ?_)
      · have h := h.1 c5
        exact h
      · have h := h.2 c5
        refine wp_run 1 true (2351, ([some (vs 0 0), some (vp 0 0), some (vp 31 0), some (vp 43 0), some (vp 44 0), some (vi l5), o6, o7, o8], ([vi 0], Gu u x m4))) rfl rfl ?_
        exact wp_ret rfl h
set_option maxRecDepth 100000 in
set_option maxHeartbeats 4000000 in
theorem vl_law_2352 {X : MX} {d : Nat} {x : Int64 × UInt64} {m : MI} {Q : MRes → Prop} {u : Nat × Nat} {l5 : Int32} {o6 : Option MV} {o7 : Option MV} {o8 : Option MV} (h : Cl X d 310 [vp 0 0, vp 44 0] (Gu u x m) (fun r => ∃ (v1 : Int32) (m2 : MI) (u3 : Nat × Nat) (x4 : Int64 × UInt64), r = (.inl (some (vi v1)), Gu u3 x4 m2) ∧ Cl X d 247 [vp 31 0] (Gu (u.1 + u3.1, u.2 + u3.2) x4 m2) (fun r => ∃ (v5 : UInt64) (m6 : MI), r = (.inl (some (vx (.double v5))), G x4 m6) ∧ Cl X d 146 [vp 31 0] (Gu (u.1 + u3.1, u.2 + u3.2) x4 m6) (fun r => ∃ (v7 : Int32) (m8 : MI), r = (.inl (some (vi v7)), G x4 m8) ∧ ((v7 = v1 → ((¬ v1 = 0 → Wp X (d + 1) 322 (2999, ([some (vs 0 0), some (vp 0 0), some (vp 31 0), some (vp 43 0), some (vp 44 0), some (vi l5), some (vi v1), some (vx (.double v5)), none], ([], Gu (u.1 + u3.1, u.2 + u3.2) x4 m8))) Q) ∧ (¬ (¬ v1 = 0) → (((Op.cmpValue (FP.dcmp (x4.2) v5) .l) = 0 → Wp X (d + 1) 322 (2999, ([some (vs 0 0), some (vp 0 0), some (vp 31 0), some (vp 43 0), some (vp 44 0), some (vi l5), some (vi v1), some (vx (.double v5)), none], ([], Gu (u.1 + u3.1, u.2 + u3.2) x4 m8))) Q) ∧ (¬ ((Op.cmpValue (FP.dcmp (x4.2) v5) .l) = 0) → (((Op.cmpValue (FP.dcmp (x4.2) (x4.2)) .l) = 0 → Q (.inl (some (vi 0)), Gu (u.1 + u3.1, u.2 + u3.2) x4 m8)) ∧ (¬ ((Op.cmpValue (FP.dcmp (x4.2) (x4.2)) .l) = 0) → ((¬ (Op.cmpValue (FP.dcmp v5 v5) .l) = 0 → Wp X (d + 1) 322 (2999, ([some (vs 0 0), some (vp 0 0), some (vp 31 0), some (vp 43 0), some (vp 44 0), some (vi l5), some (vi v1), some (vx (.double v5)), none], ([], Gu (u.1 + u3.1, u.2 + u3.2) x4 m8))) Q) ∧ (¬ (¬ (Op.cmpValue (FP.dcmp v5 v5) .l) = 0) → Q (.inl (some (vi 0)), Gu (u.1 + u3.1, u.2 + u3.2) x4 m8)))))))))) ∧ (¬ (v7 = v1) → Q (.inl (some (vi 0)), Gu (u.1 + u3.1, u.2 + u3.2) x4 m8))))))) : Wp X (d + 1) 322 (2352, ([some (vs 0 0), some (vp 0 0), some (vp 31 0), some (vp 43 0), some (vp 44 0), some (vi l5), o6, o7, o8], ([], Gu u x m))) Q := by
  refine wp_run 2 true (2355, ([some (vs 0 0), some (vp 0 0), some (vp 31 0), some (vp 43 0), some (vp 44 0), some (vi l5), o6, o7, o8], ([vp 44 0, vp 0 0], Gu u x m))) rfl rfl ?_
  refine wp_call 310 [vp 0 0, vp 44 0] (2358, ([some (vs 0 0), some (vp 0 0), some (vp 31 0), some (vp 43 0), some (vp 44 0), some (vi l5), o6, o7, o8], ([], Gu u x m))) rfl rfl (Cl.mono h (Nat.le_refl _) ?_)
  rintro r ⟨v1, m2, u3, x4, rfl, h⟩
  · show Wp X (d + 1) 322 (2358, ([some (vs 0 0), some (vp 0 0), some (vp 31 0), some (vp 43 0), some (vp 44 0), some (vi l5), o6, o7, o8], ([vi v1], Gu (u.1 + u3.1, u.2 + u3.2) x4 m2))) Q
    refine wp_run 2 true (2361, ([some (vs 0 0), some (vp 0 0), some (vp 31 0), some (vp 43 0), some (vp 44 0), some (vi l5), some (vi v1), o7, o8], ([vp 31 0], Gu (u.1 + u3.1, u.2 + u3.2) x4 m2))) rfl rfl ?_
    refine wp_call 247 [vp 31 0] (2364, ([some (vs 0 0), some (vp 0 0), some (vp 31 0), some (vp 43 0), some (vp 44 0), some (vi l5), some (vi v1), o7, o8], ([], Gu (u.1 + u3.1, u.2 + u3.2) x4 m2))) rfl rfl (Cl.mono h (Nat.le_refl _) ?_)
    rintro r ⟨v5, m6, rfl, h⟩
    · show Wp X (d + 1) 322 (2364, ([some (vs 0 0), some (vp 0 0), some (vp 31 0), some (vp 43 0), some (vp 44 0), some (vi l5), some (vi v1), o7, o8], ([vx (.double v5)], Gu (u.1 + u3.1, u.2 + u3.2) x4 m6))) Q
      refine wp_run 2 true (2367, ([some (vs 0 0), some (vp 0 0), some (vp 31 0), some (vp 43 0), some (vp 44 0), some (vi l5), some (vi v1), some (vx (.double v5)), none], ([vp 31 0], Gu (u.1 + u3.1, u.2 + u3.2) x4 m6))) rfl rfl ?_
      refine wp_call 146 [vp 31 0] (2370, ([some (vs 0 0), some (vp 0 0), some (vp 31 0), some (vp 43 0), some (vp 44 0), some (vi l5), some (vi v1), some (vx (.double v5)), none], ([], Gu (u.1 + u3.1, u.2 + u3.2) x4 m6))) rfl rfl (Cl.mono h (Nat.le_refl _) ?_)
      rintro r ⟨v7, m8, rfl, h⟩
      · show Wp X (d + 1) 322 (2370, ([some (vs 0 0), some (vp 0 0), some (vp 31 0), some (vp 43 0), some (vp 44 0), some (vi l5), some (vi v1), some (vx (.double v5)), none], ([vi v7], Gu (u.1 + u3.1, u.2 + u3.2) x4 m8))) Q
        refine wp_run 2 true ((bif decide (v7 = v1) then 2377 else 2375), ([some (vs 0 0), some (vp 0 0), some (vp 31 0), some (vp 43 0), some (vp 44 0), some (vi l5), some (vi v1), some (vx (.double v5)), none], ([], Gu (u.1 + u3.1, u.2 + u3.2) x4 m8))) rfl rfl ?_
        refine wp_if (v7 = v1) (fun c9 => ?_) (fun c9 => ?_)
        · have h := h.1 c9
          refine wp_run 2 true ((bif decide (¬ v1 = 0) then 2414 else 2382), ([some (vs 0 0), some (vp 0 0), some (vp 31 0), some (vp 43 0), some (vp 44 0), some (vi l5), some (vi v1), some (vx (.double v5)), none], ([], Gu (u.1 + u3.1, u.2 + u3.2) x4 m8))) rfl rfl ?_
          refine wp_if (¬ v1 = 0) (fun c10 => ?_) (fun c10 => ?_)
          · have h := h.1 c10
            refine wp_run 1 true (2999, ([some (vs 0 0), some (vp 0 0), some (vp 31 0), some (vp 43 0), some (vp 44 0), some (vi l5), some (vi v1), some (vx (.double v5)), none], ([], Gu (u.1 + u3.1, u.2 + u3.2) x4 m8))) rfl rfl ?_
            exact h
          · have h := h.2 c10
            refine wp_run 6 true ((bif decide ((Op.cmpValue (FP.dcmp (x4.2) v5) .l) = 0) then 2414 else 2392), ([some (vs 0 0), some (vp 0 0), some (vp 31 0), some (vp 43 0), some (vp 44 0), some (vi l5), some (vi v1), some (vx (.double v5)), none], ([], Gu (u.1 + u3.1, u.2 + u3.2) x4 m8))) rfl rfl ?_
            refine wp_if ((Op.cmpValue (FP.dcmp (x4.2) v5) .l) = 0) (fun c11 => ?_) (fun c11 => ?_)
            · have h := h.1 c11
              refine wp_run 1 true (2999, ([some (vs 0 0), some (vp 0 0), some (vp 31 0), some (vp 43 0), some (vp 44 0), some (vi l5), some (vi v1), some (vx (.double v5)), none], ([], Gu (u.1 + u3.1, u.2 + u3.2) x4 m8))) rfl rfl ?_
              exact h
            · have h := h.2 c11
              refine wp_run 8 true ((bif decide ((Op.cmpValue (FP.dcmp (x4.2) (x4.2)) .l) = 0) then 2412 else 2404), ([some (vs 0 0), some (vp 0 0), some (vp 31 0), some (vp 43 0), some (vp 44 0), some (vi l5), some (vi v1), some (vx (.double v5)), none], ([], Gu (u.1 + u3.1, u.2 + u3.2) x4 m8))) rfl rfl ?_
              refine wp_if ((Op.cmpValue (FP.dcmp (x4.2) (x4.2)) .l) = 0) (fun c12 => ?_) (fun c12 => ?_)
              · have h := h.1 c12
                refine wp_run 1 true (2413, ([some (vs 0 0), some (vp 0 0), some (vp 31 0), some (vp 43 0), some (vp 44 0), some (vi l5), some (vi v1), some (vx (.double v5)), none], ([vi 0], Gu (u.1 + u3.1, u.2 + u3.2) x4 m8))) rfl rfl ?_
                exact wp_ret rfl h
              · have h := h.2 c12
                refine wp_run 4 true ((bif decide (¬ (Op.cmpValue (FP.dcmp v5 v5) .l) = 0) then 2414 else 2412), ([some (vs 0 0), some (vp 0 0), some (vp 31 0), some (vp 43 0), some (vp 44 0), some (vi l5), some (vi v1), some (vx (.double v5)), none], ([], Gu (u.1 + u3.1, u.2 + u3.2) x4 m8))) rfl rfl ?_
                refine wp_if (¬ (Op.cmpValue (FP.dcmp v5 v5) .l) = 0) (fun c13 => ?_) (fun c13 => ?_)
                · have h := h.1 c13
                  refine wp_run 1 true (2999, ([some (vs 0 0), some (vp 0 0), some (vp 31 0), some (vp 43 0), some (vp 44 0), some (vi l5), some (vi v1), some (vx (.double v5)), none], ([], Gu (u.1 + u3.1, u.2 + u3.2) x4 m8))) rfl rfl ?_
                  exact h
                · have h := h.2 c13
                  refine wp_run 1 true (2413, ([some (vs 0 0), some (vp 0 0), some (vp 31 0), some (vp 43 0), some (vp 44 0), some (vi l5), some (vi v1), some (vx (.double v5)), none], ([vi 0], Gu (u.1 + u3.1, u.2 + u3.2) x4 m8))) rfl rfl ?_
                  exact wp_ret rfl h
        · have h := h.2 c9
          refine wp_run 1 true (2376, ([some (vs 0 0), some (vp 0 0), some (vp 31 0), some (vp 43 0), some (vp 44 0), some (vi l5), some (vi v1), some (vx (.double v5)), none], ([vi 0], Gu (u.1 + u3.1, u.2 + u3.2) x4 m8))) rfl rfl ?_
          exact wp_ret rfl h
set_option maxRecDepth 100000 in
set_option maxHeartbeats 4000000 in
theorem vl_law_2417 {X : MX} {d : Nat} {x : Int64 × UInt64} {m : MI} {Q : MRes → Prop} {u : Nat × Nat} {l5 : Int32} {o6 : Option MV} {o7 : Option MV} {o8 : Option MV} (h : Cl X d 311 [vp 0 0, vp 44 0] (Gu u x m) (fun r => ∃ (v1 : Int32) (m2 : MI) (u3 : Nat × Nat) (x4 : Int64 × UInt64), r = (.inl (some (vi v1)), Gu u3 x4 m2) ∧ Cl X d 248 [vp 31 0] (Gu (u.1 + u3.1, u.2 + u3.2) x4 m2) (fun r => ∃ (v5 : UInt32) (m6 : MI), r = (.inl (some (vx (.float v5))), G x4 m6) ∧ Cl X d 146 [vp 31 0] (Gu (u.1 + u3.1, u.2 + u3.2) x4 m6) (fun r => ∃ (v7 : Int32) (m8 : MI), r = (.inl (some (vi v7)), G x4 m8) ∧ ((v7 = v1 → ((¬ v1 = 0 → Wp X (d + 1) 322 (2999, ([some (vs 0 0), some (vp 0 0), some (vp 31 0), some (vp 43 0), some (vp 44 0), some (vi l5), some (vi v1), some (vx (.float v5)), o8], ([], Gu (u.1 + u3.1, u.2 + u3.2) x4 m8))) Q) ∧ (¬ (¬ v1 = 0) → (decide (FP.f2d v5 &&& 0x7fffffffffffffff ≤ 0x7ff0000000000000) = true ∧ (((Op.cmpValue (FP.dcmp (x4.2) (FP.f2d v5)) .l) = 0 → Wp X (d + 1) 322 (2999, ([some (vs 0 0), some (vp 0 0), some (vp 31 0), some (vp 43 0), some (vp 44 0), some (vi l5), some (vi v1), some (vx (.float v5)), o8], ([], Gu (u.1 + u3.1, u.2 + u3.2) x4 m8))) Q) ∧ (¬ ((Op.cmpValue (FP.dcmp (x4.2) (FP.f2d v5)) .l) = 0) → (((Op.cmpValue (FP.dcmp (x4.2) (x4.2)) .l) = 0 → Q (.inl (some (vi 0)), Gu (u.1 + u3.1, u.2 + u3.2) x4 m8)) ∧ (¬ ((Op.cmpValue (FP.dcmp (x4.2) (x4.2)) .l) = 0) → ((¬ (Op.cmpValue (FP.fcmp v5 v5) .l) = 0 → Wp X (d + 1) 322 (2999, ([some (vs 0 0), some (vp 0 0), some (vp 31 0), some (vp 43 0), some (vp 44 0), some (vi l5), some (vi v1), some (vx (.float v5)), o8], ([], Gu (u.1 + u3.1, u.2 + u3.2) x4 m8))) Q) ∧ (¬ (¬ (Op.cmpValue (FP.fcmp v5 v5) .l) = 0) → Q (.inl (some (vi 0)), Gu (u.1 + u3.1, u.2 + u3.2) x4 m8))))))))))) ∧ (¬ (v7 = v1) → Q (.inl (some (vi 0)), Gu (u.1 + u3.1, u.2 + u3.2) x4 m8))))))) : Wp X (d + 1) 322 (2417, ([some (vs 0 0), some (vp 0 0), some (vp 31 0), some (vp 43 0), some (vp 44 0), some (vi l5), o6, o7, o8], ([], Gu u x m))) Q := by
  refine wp_run 2 true (2420, ([some (vs 0 0), some (vp 0 0), some (vp 31 0), some (vp 43 0), some (vp 44 0), some (vi l5), o6, o7, o8], ([vp 44 0, vp 0 0], Gu u x m))) rfl rfl ?_
  refine wp_call 311 [vp 0 0, vp 44 0] (2423, ([some (vs 0 0), some (vp 0 0), some (vp 31 0), some (vp 43 0), some (vp 44 0), some (vi l5), o6, o7, o8], ([], Gu u x m))) rfl rfl (Cl.mono h (Nat.le_refl _) ?_)
  rintro r ⟨v1, m2, u3, x4, rfl, h⟩
  · show Wp X (d + 1) 322 (2423, ([some (vs 0 0), some (vp 0 0), some (vp 31 0), some (vp 43 0), some (vp 44 0), some (vi l5), o6, o7, o8], ([vi v1], Gu (u.1 + u3.1, u.2 + u3.2) x4 m2))) Q
    refine wp_run 2 true (2426, ([some (vs 0 0), some (vp 0 0), some (vp 31 0), some (vp 43 0), some (vp 44 0), some (vi l5), some (vi v1), o7, o8], ([vp 31 0], Gu (u.1 + u3.1, u.2 + u3.2) x4 m2))) rfl rfl ?_
    refine wp_call 248 [vp 31 0] (2429, ([some (vs 0 0), some (vp 0 0), some (vp 31 0), some (vp 43 0), some (vp 44 0), some (vi l5), some (vi v1), o7, o8], ([], Gu (u.1 + u3.1, u.2 + u3.2) x4 m2))) rfl rfl (Cl.mono h (Nat.le_refl _) ?_)
    rintro r ⟨v5, m6, rfl, h⟩
    · show Wp X (d + 1) 322 (2429, ([some (vs 0 0), some (vp 0 0), some (vp 31 0), some (vp 43 0), some (vp 44 0), some (vi l5), some (vi v1), o7, o8], ([vx (.float v5)], Gu (u.1 + u3.1, u.2 + u3.2) x4 m6))) Q
      refine wp_run 2 true (2432, ([some (vs 0 0), some (vp 0 0), some (vp 31 0), some (vp 43 0), some (vp 44 0), some (vi l5), some (vi v1), some (vx (.float v5)), o8], ([vp 31 0], Gu (u.1 + u3.1, u.2 + u3.2) x4 m6))) rfl rfl ?_
      refine wp_call 146 [vp 31 0] (2435, ([some (vs 0 0), some (vp 0 0), some (vp 31 0), some (vp 43 0), some (vp 44 0), some (vi l5), some (vi v1), some (vx (.float v5)), o8], ([], Gu (u.1 + u3.1, u.2 + u3.2) x4 m6))) rfl rfl (Cl.mono h (Nat.le_refl _) ?_)
      rintro r ⟨v7, m8, rfl, h⟩
      · show Wp X (d + 1) 322 (2435, ([some (vs 0 0), some (vp 0 0), some (vp 31 0), some (vp 43 0), some (vp 44 0), some (vi l5), some (vi v1), some (vx (.float v5)), o8], ([vi v7], Gu (u.1 + u3.1, u.2 + u3.2) x4 m8))) Q
        refine wp_run 2 true ((bif decide (v7 = v1) then 2442 else 2440), ([some (vs 0 0), some (vp 0 0), some (vp 31 0), some (vp 43 0), some (vp 44 0), some (vi l5), some (vi v1), some (vx (.float v5)), o8], ([], Gu (u.1 + u3.1, u.2 + u3.2) x4 m8))) rfl rfl ?_
        refine wp_if (v7 = v1) (fun c9 => ?_) (fun c9 => ?_)
        · have h := h.1 c9
          refine wp_run 2 true ((bif decide (¬ v1 = 0) then 2480 else 2447), ([some (vs 0 0), some (vp 0 0), some (vp 31 0), some (vp 43 0), some (vp 44 0), some (vi l5), some (vi v1), some (vx (.float v5)), o8], ([], Gu (u.1 + u3.1, u.2 + u3.2) x4 m8))) rfl rfl ?_
          refine wp_if (¬ v1 = 0) (fun c10 => ?_) (fun c10 => ?_)
          · have h := h.1 c10
            refine wp_run 1 true (2999, ([some (vs 0 0), some (vp 0 0), some (vp 31 0), some (vp 43 0), some (vp 44 0), some (vi l5), some (vi v1), some (vx (.float v5)), o8], ([], Gu (u.1 + u3.1, u.2 + u3.2) x4 m8))) rfl rfl ?_
            exact h
          · have h := h.2 c10
            obtain ⟨hg6_0, h⟩ := h
            refine wp_run 7 (decide (FP.f2d v5 &&& 0x7fffffffffffffff ≤ 0x7ff0000000000000) && true) ((bif decide ((Op.cmpValue (FP.dcmp (x4.2) (FP.f2d v5)) .l) = 0) then 2480 else 2458), ([some (vs 0 0), some (vp 0 0), some (vp 31 0), some (vp 43 0), some (vp 44 0), some (vi l5), some (vi v1), some (vx (.float v5)), o8], ([], Gu (u.1 + u3.1, u.2 + u3.2) x4 m8))) rfl (and_t hg6_0 rfl) ?_
            refine wp_if ((Op.cmpValue (FP.dcmp (x4.2) (FP.f2d v5)) .l) = 0) (fun c11 => ?_) (fun c11 => ?_)
            · have h := h.1 c11
              refine wp_run 1 true (2999, ([some (vs 0 0), some (vp 0 0), some (vp 31 0), some (vp 43 0), some (vp 44 0), some (vi l5), some (vi v1), some (vx (.float v5)), o8], ([], Gu (u.1 + u3.1, u.2 + u3.2) x4 m8))) rfl rfl ?_
              exact h
            · have h := h.2 c11
              refine wp_run 8 true ((bif decide ((Op.cmpValue (FP.dcmp (x4.2) (x4.2)) .l) = 0) then 2478 else 2470), ([some (vs 0 0), some (vp 0 0), some (vp 31 0), some (vp 43 0), some (vp 44 0), some (vi l5), some (vi v1), some (vx (.float v5)), o8], ([], Gu (u.1 + u3.1, u.2 + u3.2) x4 m8))) rfl rfl ?_
              refine wp_if ((Op.cmpValue (FP.dcmp (x4.2) (x4.2)) .l) = 0) (fun c12 => ?_) (fun c12 => ?_)
              · have h := h.1 c12
                refine wp_run 1 true (2479, ([some (vs 0 0), some (vp 0 0), some (vp 31 0), some (vp 43 0), some (vp 44 0), some (vi l5), some (vi v1), some (vx (.float v5)), o8], ([vi 0], Gu (u.1 + u3.1, u.2 + u3.2) x4 m8))) rfl rfl ?_
                exact wp_ret rfl h
              · have h := h.2 c12
                refine wp_run 4 true ((bif decide (¬ (Op.cmpValue (FP.fcmp v5 v5) .l) = 0) then 2480 else 2478), ([some (vs 0 0), some (vp 0 0), some (vp 31 0), some (vp 43 0), some (vp 44 0), some (vi l5), some (vi v1), some (vx (.float v5)), o8], ([], Gu (u.1 + u3.1, u.2 + u3.2) x4 m8))) rfl rfl ?_
                refine wp_if (¬ (Op.cmpValue (FP.fcmp v5 v5) .l) = 0) (fun c13 => ?_) (fun c13 => ?_)
                · have h := h.1 c13
                  refine wp_run 1 true (2999, ([some (vs 0 0), some (vp 0 0), some (vp 31 0), some (vp 43 0), some (vp 44 0), some (vi l5), some (vi v1), some (vx (.float v5)), o8], ([], Gu (u.1 + u3.1, u.2 + u3.2) x4 m8))) rfl rfl ?_
                  exact h
                · have h := h.2 c13
                  refine wp_run 1 true (2479, ([some (vs 0 0), some (vp 0 0), some (vp 31 0), some (vp 43 0), some (vp 44 0), some (vi l5), some (vi v1), some (vx (.float v5)), o8], ([vi 0], Gu (u.1 + u3.1, u.2 + u3.2) x4 m8))) rfl rfl ?_
                  exact wp_ret rfl h
        · have h := h.2 c9
          refine wp_run 1 true (2441, ([some (vs 0 0), some (vp 0 0), some (vp 31 0), some (vp 43 0), some (vp 44 0), some (vi l5), some (vi v1), some (vx (.float v5)), o8], ([vi 0], Gu (u.1 + u3.1, u.2 + u3.2) x4 m8))) rfl rfl ?_
          exact wp_ret rfl h
set_option maxRecDepth 100000 in
set_option maxHeartbeats 4000000 in
theorem vl_law_2483 {X : MX} {d : Nat} {x : Int64 × UInt64} {m : MI} {Q : MRes → Prop} {u : Nat × Nat} {l5 : Int32} {o6 : Option MV} {o7 : Option MV} {o8 : Option MV} (h : Cl X d 45 [vp 0 0] (Gu u x m) (fun r => ∃ (v1 : Int32) (m2 : MI), r = (.inl (some (vi v1)), G x m2) ∧ Cl X d 249 [vp 31 0] (Gu u x m2) (fun r => ∃ (v3 : Int32) (m4 : MI), r = (.inl (some (vi v3)), G x m4) ∧ ((v1 = v3 → Wp X (d + 1) 322 (2999, ([some (vs 0 0), some (vp 0 0), some (vp 31 0), some (vp 43 0), some (vp 44 0), some (vi l5), o6, o7, o8], ([], Gu u x m4))) Q) ∧ (¬ (v1 = v3) → Q (.inl (some (vi 0)), Gu u x m4)))))) : Wp X (d + 1) 322 (2483, ([some (vs 0 0), some (vp 0 0), some (vp 31 0), some (vp 43 0), some (vp 44 0), some (vi l5), o6, o7, o8], ([], Gu u x m))) Q := by
  refine wp_run 1 true (2484, ([some (vs 0 0), some (vp 0 0), some (vp 31 0), some (vp 43 0), some (vp 44 0), some (vi l5), o6, o7, o8], ([vp 0 0], Gu u x m))) rfl rfl ?_
  refine wp_call 45 [vp 0 0] (2487, ([some (vs 0 0), some (vp 0 0), some (vp 31 0), some (vp 43 0), some (vp 44 0), some (vi l5), o6, o7, o8], ([], Gu u x m))) rfl rfl (Cl.mono h (Nat.le_refl _) ?_)
  rintro r ⟨v1, m2, rfl, h⟩
  · show Wp X (d + 1) 322 (2487, ([some (vs 0 0), some (vp 0 0), some (vp 31 0), some (vp 43 0), some (vp 44 0), some (vi l5), o6, o7, o8], ([vi v1], Gu u x m2))) Q
    refine wp_run 1 true (2488, ([some (vs 0 0), some (vp 0 0), some (vp 31 0), some (vp 43 0), some (vp 44 0), some (vi l5), o6, o7, o8], ([vp 31 0, vi v1], Gu u x m2))) rfl rfl ?_
    refine wp_call 249 [vp 31 0] (2491, ([some (vs 0 0), some (vp 0 0), some (vp 31 0), some (vp 43 0), some (vp 44 0), some (vi l5), o6, o7, o8], ([vi v1], Gu u x m2))) rfl rfl (Cl.mono h (Nat.le_refl _) ?_)
    rintro r ⟨v3, m4, rfl, h⟩
    · show Wp X (d + 1) 322 (2491, ([some (vs 0 0), some (vp 0 0), some (vp 31 0), some (vp 43 0), some (vp 44 0), some (vi l5), o6, o7, o8], ([vi v3, vi v1], Gu u x m4))) Q
      refine wp_run 1 true ((bif decide (v1 = v3) then 2999 else 2494), ([some (vs 0 0), some (vp 0 0), some (vp 31 0), some (vp 43 0), some (vp 44 0), some (vi l5), o6, o7, o8], ([], Gu u x m4))) rfl rfl ?_
      refine wp_if (v1 = v3) (fun c5 => ?_) (fun c5 => ?_)
      · have h := h.1 c5
        exact h
      · have h := h.2 c5
        refine wp_run 1 true (2495, ([some (vs 0 0), some (vp 0 0), some (vp 31 0), some (vp 43 0), some (vp 44 0), some (vi l5), o6, o7, o8], ([vi 0], Gu u x m4))) rfl rfl ?_
        exact wp_ret rfl h
set_option maxRecDepth 100000 in
set_option maxHeartbeats 4000000 in
theorem vl_law_2496 {X : MX} {d : Nat} {x : Int64 × UInt64} {m : MI} {Q : MRes → Prop} {u : Nat × Nat} {l5 : Int32} {o6 : Option MV} {o7 : Option MV} {o8 : Option MV} (h : (inb (l5 + 1) X.1 = true ∧ Cl X d 312 [vp 0 0, vi (X.2 (l5 + 1).toNatClampNeg), vp 43 0] (Gu u x m) (fun r => ∃ (v1 : Int32) (m2 : MI) (u3 : Nat × Nat) (x4 : Int64 × UInt64), r = (.inl (some (vi v1)), Gu u3 x4 m2) ∧ (inb (l5 + 1) X.1 = true ∧ Cl X d 253 [vp 31 0, vi (X.2 (l5 + 1).toNatClampNeg)] (Gu (u.1 + u3.1, u.2 + u3.2) x4 m2) (fun r => ∃ (v5 : Int32) (m6 : MI), r = (.inl (some (vi v5)), G x4 m6) ∧ Cl X d 146 [vp 31 0] (Gu (u.1 + u3.1, u.2 + u3.2) x4 m6) (fun r => ∃ (v7 : Int32) (m8 : MI), r = (.inl (some (vi v7)), G x4 m8) ∧ ((v7 = v1 → ((¬ v1 = 0 → Wp X (d + 1) 322 (2999, ([some (vs 0 0), some (vp 0 0), some (vp 31 0), some (vp 43 0), some (vp 44 0), some (vi l5), some (vi v1), some (vi v5), o8], ([], Gu (u.1 + u3.1, u.2 + u3.2) x4 m8))) Q) ∧ (¬ (¬ v1 = 0) → (((lg_cmp (x4.1) (v5.toInt64)) = 0 → Wp X (d + 1) 322 (2999, ([some (vs 0 0), some (vp 0 0), some (vp 31 0), some (vp 43 0), some (vp 44 0), some (vi l5), some (vi v1), some (vi v5), o8], ([], Gu (u.1 + u3.1, u.2 + u3.2) x4 m8))) Q) ∧ (¬ ((lg_cmp (x4.1) (v5.toInt64)) = 0) → Q (.inl (some (vi 0)), Gu (u.1 + u3.1, u.2 + u3.2) x4 m8)))))) ∧ (¬ (v7 = v1) → Q (.inl (some (vi 0)), Gu (u.1 + u3.1, u.2 + u3.2) x4 m8))))))))) : Wp X (d + 1) 322 (2496, ([some (vs 0 0), some (vp 0 0), some (vp 31 0), some (vp 43 0), some (vp 44 0), some (vi l5), o6, o7, o8], ([], Gu u x m))) Q := by
  obtain ⟨hg1_0, h⟩ := h
  refine wp_run 7 (inb (l5 + 1) X.1 && true) (2504, ([some (vs 0 0), some (vp 0 0), some (vp 31 0), some (vp 43 0), some (vp 44 0), some (vi l5), o6, o7, o8], ([vp 43 0, vi (X.2 (l5 + 1).toNatClampNeg), vp 0 0], Gu u x m))) rfl (and_t hg1_0 rfl) ?_
  refine wp_call 312 [vp 0 0, vi (X.2 (l5 + 1).toNatClampNeg), vp 43 0] (2507, ([some (vs 0 0), some (vp 0 0), some (vp 31 0), some (vp 43 0), some (vp 44 0), some (vi l5), o6, o7, o8], ([], Gu u x m))) rfl rfl (Cl.mono h (Nat.le_refl _) ?_)
  rintro r ⟨v1, m2, u3, x4, rfl, h⟩
  · show Wp X (d + 1) 322 (2507, ([some (vs 0 0), some (vp 0 0), some (vp 31 0), some (vp 43 0), some (vp 44 0), some (vi l5), o6, o7, o8], ([vi v1], Gu (u.1 + u3.1, u.2 + u3.2) x4 m2))) Q
    obtain ⟨hg2_0, h⟩ := h
    refine wp_run 7 (inb (l5 + 1) X.1 && true) (2516, ([some (vs 0 0), some (vp 0 0), some (vp 31 0), some (vp 43 0), some (vp 44 0), some (vi l5), some (vi v1), o7, o8], ([vi (X.2 (l5 + 1).toNatClampNeg), vp 31 0], Gu (u.1 + u3.1, u.2 + u3.2) x4 m2))) rfl (and_t hg2_0 rfl) ?_
    refine wp_call 253 [vp 31 0, vi (X.2 (l5 + 1).toNatClampNeg)] (2519, ([some (vs 0 0), some (vp 0 0), some (vp 31 0), some (vp 43 0), some (vp 44 0), some (vi l5), some (vi v1), o7, o8], ([], Gu (u.1 + u3.1, u.2 + u3.2) x4 m2))) rfl rfl (Cl.mono h (Nat.le_refl _) ?_)
    rintro r ⟨v5, m6, rfl, h⟩
    · show Wp X (d + 1) 322 (2519, ([some (vs 0 0), some (vp 0 0), some (vp 31 0), some (vp 43 0), some (vp 44 0), some (vi l5), some (vi v1), o7, o8], ([vi v5], Gu (u.1 + u3.1, u.2 + u3.2) x4 m6))) Q
      refine wp_run 2 true (2522, ([some (vs 0 0), some (vp 0 0), some (vp 31 0), some (vp 43 0), some (vp 44 0), some (vi l5), some (vi v1), some (vi v5), o8], ([vp 31 0], Gu (u.1 + u3.1, u.2 + u3.2) x4 m6))) rfl rfl ?_
      refine wp_call 146 [vp 31 0] (2525, ([some (vs 0 0), some (vp 0 0), some (vp 31 0), some (vp 43 0), some (vp 44 0), some (vi l5), some (vi v1), some (vi v5), o8], ([], Gu (u.1 + u3.1, u.2 + u3.2) x4 m6))) rfl rfl (Cl.mono h (Nat.le_refl _) ?_)
      rintro r ⟨v7, m8, rfl, h⟩
      · show Wp X (d + 1) 322 (2525, ([some (vs 0 0), some (vp 0 0), some (vp 31 0), some (vp 43 0), some (vp 44 0), some (vi l5), some (vi v1), some (vi v5), o8], ([vi v7], Gu (u.1 + u3.1, u.2 + u3.2) x4 m8))) Q
        refine wp_run 2 true ((bif decide (v7 = v1) then 2532 else 2530), ([some (vs 0 0), some (vp 0 0), some (vp 31 0), some (vp 43 0), some (vp 44 0), some (vi l5), some (vi v1), some (vi v5), o8], ([], Gu (u.1 + u3.1, u.2 + u3.2) x4 m8))) rfl rfl ?_
        refine wp_if (v7 = v1) (fun c9 => ?_) (fun c9 => ?_)
        · have h := h.1 c9
          refine wp_run 2 true ((bif decide (¬ v1 = 0) then 2549 else 2537), ([some (vs 0 0), some (vp 0 0), some (vp 31 0), some (vp 43 0), some (vp 44 0), some (vi l5), some (vi v1), some (vi v5), o8], ([], Gu (u.1 + u3.1, u.2 + u3.2) x4 m8))) rfl rfl ?_
          refine wp_if (¬ v1 = 0) (fun c10 => ?_) (fun c10 => ?_)
          · have h := h.1 c10
            refine wp_run 1 true (2999, ([some (vs 0 0), some (vp 0 0), some (vp 31 0), some (vp 43 0), some (vp 44 0), some (vi l5), some (vi v1), some (vi v5), o8], ([], Gu (u.1 + u3.1, u.2 + u3.2) x4 m8))) rfl rfl ?_
            exact h
          · have h := h.2 c10
            refine wp_run 7 true ((bif decide ((lg_cmp (x4.1) (v5.toInt64)) = 0) then 2549 else 2547), ([some (vs 0 0), some (vp 0 0), some (vp 31 0), some (vp 43 0), some (vp 44 0), some (vi l5), some (vi v1), some (vi v5), o8], ([], Gu (u.1 + u3.1, u.2 + u3.2) x4 m8))) rfl rfl ?_
            refine wp_if ((lg_cmp (x4.1) (v5.toInt64)) = 0) (fun c11 => ?_) (fun c11 => ?_)
            · have h := h.1 c11
              refine wp_run 1 true (2999, ([some (vs 0 0), some (vp 0 0), some (vp 31 0), some (vp 43 0), some (vp 44 0), some (vi l5), some (vi v1), some (vi v5), o8], ([], Gu (u.1 + u3.1, u.2 + u3.2) x4 m8))) rfl rfl ?_
              exact h
            · have h := h.2 c11
              refine wp_run 1 true (2548, ([some (vs 0 0), some (vp 0 0), some (vp 31 0), some (vp 43 0), some (vp 44 0), some (vi l5), some (vi v1), some (vi v5), o8], ([vi 0], Gu (u.1 + u3.1, u.2 + u3.2) x4 m8))) rfl rfl ?_
              exact wp_ret rfl h
        · have h := h.2 c9
          refine wp_run 1 true (2531, ([some (vs 0 0), some (vp 0 0), some (vp 31 0), some (vp 43 0), some (vp 44 0), some (vi l5), some (vi v1), some (vi v5), o8], ([vi 0], Gu (u.1 + u3.1, u.2 + u3.2) x4 m8))) rfl rfl ?_
          exact wp_ret rfl h
set_option maxRecDepth 100000 in
set_option maxHeartbeats 4000000 in
theorem vl_law_2552 {X : MX} {d : Nat} {x : Int64 × UInt64} {m : MI} {Q : MRes → Prop} {u : Nat × Nat} {l5 : Int32} {o6 : Option MV} {o7 : Option MV} {o8 : Option MV} (h : (inb (l5 + 1) X.1 = true ∧ Cl X d 313 [vp 0 0, vi (X.2 (l5 + 1).toNatClampNeg), vp 43 0] (Gu u x m) (fun r => ∃ (v1 : Int32) (m2 : MI) (u3 : Nat × Nat) (x4 : Int64 × UInt64), r = (.inl (some (vi v1)), Gu u3 x4 m2) ∧ (inb (l5 + 1) X.1 = true ∧ Cl X d 254 [vp 31 0, vi (X.2 (l5 + 1).toNatClampNeg)] (Gu (u.1 + u3.1, u.2 + u3.2) x4 m2) (fun r => ∃ (v5 : Int32) (m6 : MI), r = (.inl (some (vi v5)), G x4 m6) ∧ Cl X d 146 [vp 31 0] (Gu (u.1 + u3.1, u.2 + u3.2) x4 m6) (fun r => ∃ (v7 : Int32) (m8 : MI), r = (.inl (some (vi v7)), G x4 m8) ∧ ((v7 = v1 → ((¬ v1 = 0 → Wp X (d + 1) 322 (2999, ([some (vs 0 0), some (vp 0 0), some (vp 31 0), some (vp 43 0), some (vp 44 0), some (vi l5), some (vi v1), some (vi v5), o8], ([], Gu (u.1 + u3.1, u.2 + u3.2) x4 m8))) Q) ∧ (¬ (¬ v1 = 0) → (((lg_cmp (x4.1) (v5.toInt64)) = 0 → Wp X (d + 1) 322 (2999, ([some (vs 0 0), some (vp 0 0), some (vp 31 0), some (vp 43 0), some (vp 44 0), some (vi l5), some (vi v1), some (vi v5), o8], ([], Gu (u.1 + u3.1, u.2 + u3.2) x4 m8))) Q) ∧ (¬ ((lg_cmp (x4.1) (v5.toInt64)) = 0) → Q (.inl (some (vi 0)), Gu (u.1 + u3.1, u.2 + u3.2) x4 m8)))))) ∧ (¬ (v7 = v1) → Q (.inl (some (vi 0)), Gu (u.1 + u3.1, u.2 + u3.2) x4 m8))))))))) : Wp X (d + 1) 322 (2552, ([some (vs 0 0), some (vp 0 0), some (vp 31 0), some (vp 43 0), some (vp 44 0), some (vi l5), o6, o7, o8], ([], Gu u x m))) Q := by
  obtain ⟨hg1_0, h⟩ := h
  refine wp_run 7 (inb (l5 + 1) X.1 && true) (2560, ([some (vs 0 0), some (vp 0 0), some (vp 31 0), some (vp 43 0), some (vp 44 0), some (vi l5), o6, o7, o8], ([vp 43 0, vi (X.2 (l5 + 1).toNatClampNeg), vp 0 0], Gu u x m))) rfl (and_t hg1_0 rfl) ?_
  refine wp_call 313 [vp 0 0, vi (X.2 (l5 + 1).toNatClampNeg), vp 43 0] (2563, ([some (vs 0 0), some (vp 0 0), some (vp 31 0), some (vp 43 0), some (vp 44 0), some (vi l5), o6, o7, o8], ([], Gu u x m))) rfl rfl (Cl.mono h (Nat.le_refl _) ?_)
  rintro r ⟨v1, m2, u3, x4, rfl, h⟩
  · show Wp X (d + 1) 322 (2563, ([some (vs 0 0), some (vp 0 0), some (vp 31 0), some (vp 43 0), some (vp 44 0), some (vi l5), o6, o7, o8], ([vi v1], Gu (u.1 + u3.1, u.2 + u3.2) x4 m2))) Q
    obtain ⟨hg2_0, h⟩ := h
    refine wp_run 7 (inb (l5 + 1) X.1 && true) (2572, ([some (vs 0 0), some (vp 0 0), some (vp 31 0), some (vp 43 0), some (vp 44 0), some (vi l5), some (vi v1), o7, o8], ([vi (X.2 (l5 + 1).toNatClampNeg), vp 31 0], Gu (u.1 + u3.1, u.2 + u3.2) x4 m2))) rfl (and_t hg2_0 rfl) ?_
    refine wp_call 254 [vp 31 0, vi (X.2 (l5 + 1).toNatClampNeg)] (2575, ([some (vs 0 0), some (vp 0 0), some (vp 31 0), some (vp 43 0), some (vp 44 0), some (vi l5), some (vi v1), o7, o8], ([], Gu (u.1 + u3.1, u.2 + u3.2) x4 m2))) rfl rfl (Cl.mono h (Nat.le_refl _) ?_)
    rintro r ⟨v5, m6, rfl, h⟩
    · show Wp X (d + 1) 322 (2575, ([some (vs 0 0), some (vp 0 0), some (vp 31 0), some (vp 43 0), some (vp 44 0), some (vi l5), some (vi v1), o7, o8], ([vi v5], Gu (u.1 + u3.1, u.2 + u3.2) x4 m6))) Q
      refine wp_run 2 true (2578, ([some (vs 0 0), some (vp 0 0), some (vp 31 0), some (vp 43 0), some (vp 44 0), some (vi l5), some (vi v1), some (vi v5), o8], ([vp 31 0], Gu (u.1 + u3.1, u.2 + u3.2) x4 m6))) rfl rfl ?_
      refine wp_call 146 [vp 31 0] (2581, ([some (vs 0 0), some (vp 0 0), some (vp 31 0), some (vp 43 0), some (vp 44 0), some (vi l5), some (vi v1), some (vi v5), o8], ([], Gu (u.1 + u3.1, u.2 + u3.2) x4 m6))) rfl rfl (Cl.mono h (Nat.le_refl _) ?_)
      rintro r ⟨v7, m8, rfl, h⟩
      · show Wp X (d + 1) 322 (2581, ([some (vs 0 0), some (vp 0 0), some (vp 31 0), some (vp 43 0), some (vp 44 0), some (vi l5), some (vi v1), some (vi v5), o8], ([vi v7], Gu (u.1 + u3.1, u.2 + u3.2) x4 m8))) Q
        refine wp_run 2 true ((bif decide (v7 = v1) then 2588 else 2586), ([some (vs 0 0), some (vp 0 0), some (vp 31 0), some (vp 43 0), some (vp 44 0), some (vi l5), some (vi v1), some (vi v5), o8], ([], Gu (u.1 + u3.1, u.2 + u3.2) x4 m8))) rfl rfl ?_
        refine wp_if (v7 = v1) (fun c9 => ?_) (fun c9 => ?_)
        · have h := h.1 c9
          refine wp_run 2 true ((bif decide (¬ v1 = 0) then 2605 else 2593), ([some (vs 0 0), some (vp 0 0), some (vp 31 0), some (vp 43 0), some (vp 44 0), some (vi l5), some (vi v1), some (vi v5), o8], ([], Gu (u.1 + u3.1, u.2 + u3.2) x4 m8))) rfl rfl ?_
          refine wp_if (¬ v1 = 0) (fun c10 => ?_) (fun c10 => ?_)
          · have h := h.1 c10
            refine wp_run 1 true (2999, ([some (vs 0 0), some (vp 0 0), some (vp 31 0), some (vp 43 0), some (vp 44 0), some (vi l5), some (vi v1), some (vi v5), o8], ([], Gu (u.1 + u3.1, u.2 + u3.2) x4 m8))) rfl rfl ?_
            exact h
          · have h := h.2 c10
            refine wp_run 7 true ((bif decide ((lg_cmp (x4.1) (v5.toInt64)) = 0) then 2605 else 2603), ([some (vs 0 0), some (vp 0 0), some (vp 31 0), some (vp 43 0), some (vp 44 0), some (vi l5), some (vi v1), some (vi v5), o8], ([], Gu (u.1 + u3.1, u.2 + u3.2) x4 m8))) rfl rfl ?_
            refine wp_if ((lg_cmp (x4.1) (v5.toInt64)) = 0) (fun c11 => ?_) (fun c11 => ?_)
            · have h := h.1 c11
              refine wp_run 1 true (2999, ([some (vs 0 0), some (vp 0 0), some (vp 31 0), some (vp 43 0), some (vp 44 0), some (vi l5), some (vi v1), some (vi v5), o8], ([], Gu (u.1 + u3.1, u.2 + u3.2) x4 m8))) rfl rfl ?_
              exact h
            · have h := h.2 c11
              refine wp_run 1 true (2604, ([some (vs 0 0), some (vp 0 0), some (vp 31 0), some (vp 43 0), some (vp 44 0), some (vi l5), some (vi v1), some (vi v5), o8], ([vi 0], Gu (u.1 + u3.1, u.2 + u3.2) x4 m8))) rfl rfl ?_
              exact wp_ret rfl h
        · have h := h.2 c9
          refine wp_run 1 true (2587, ([some (vs 0 0), some (vp 0 0), some (vp 31 0), some (vp 43 0), some (vp 44 0), some (vi l5), some (vi v1), some (vi v5), o8], ([vi 0], Gu (u.1 + u3.1, u.2 + u3.2) x4 m8))) rfl rfl ?_
          exact wp_ret rfl h
set_option maxRecDepth 100000 in
set_option maxHeartbeats 4000000 in
theorem vl_law_2608 {X : MX} {d : Nat} {x : Int64 × UInt64} {m : MI} {Q : MRes → Prop} {u : Nat × Nat} {l5 : Int32} {o6 : Option MV} {o7 : Option MV} {o8 : Option MV} (h : (inb (l5 + 1) X.1 = true ∧ Cl X d 314 [vp 0 0, vi (X.2 (l5 + 1).toNatClampNeg), vp 43 0] (Gu u x m) (fun r => ∃ (v1 : Int32) (m2 : MI) (u3 : Nat × Nat) (x4 : Int64 × UInt64), r = (.inl (some (vi v1)), Gu u3 x4 m2) ∧ (inb (l5 + 1) X.1 = true ∧ Cl X d 255 [vp 31 0, vi (X.2 (l5 + 1).toNatClampNeg)] (Gu (u.1 + u3.1, u.2 + u3.2) x4 m2) (fun r => ∃ (v5 : Int32) (m6 : MI), r = (.inl (some (vi v5)), G x4 m6) ∧ Cl X d 146 [vp 31 0] (Gu (u.1 + u3.1, u.2 + u3.2) x4 m6) (fun r => ∃ (v7 : Int32) (m8 : MI), r = (.inl (some (vi v7)), G x4 m8) ∧ ((v7 = v1 → ((¬ v1 = 0 → Wp X (d + 1) 322 (2999, ([some (vs 0 0), some (vp 0 0), some (vp 31 0), some (vp 43 0), some (vp 44 0), some (vi l5), some (vi v1), some (vi v5), o8], ([], Gu (u.1 + u3.1, u.2 + u3.2) x4 m8))) Q) ∧ (¬ (¬ v1 = 0) → (((lg_cmp (x4.1) (v5.toInt64)) = 0 → Wp X (d + 1) 322 (2999, ([some (vs 0 0), some (vp 0 0), some (vp 31 0), some (vp 43 0), some (vp 44 0), some (vi l5), some (vi v1), some (vi v5), o8], ([], Gu (u.1 + u3.1, u.2 + u3.2) x4 m8))) Q) ∧ (¬ ((lg_cmp (x4.1) (v5.toInt64)) = 0) → Q (.inl (some (vi 0)), Gu (u.1 + u3.1, u.2 + u3.2) x4 m8)))))) ∧ (¬ (v7 = v1) → Q (.inl (some (vi 0)), Gu (u.1 + u3.1, u.2 + u3.2) x4 m8))))))))) : Wp X (d + 1) 322 (2608, ([some (vs 0 0), some (vp 0 0), some (vp 31 0), some (vp 43 0), some (vp 44 0), some (vi l5), o6, o7, o8], ([], Gu u x m))) Q := by
  obtain ⟨hg1_0, h⟩ := h
  refine wp_run 7 (inb (l5 + 1) X.1 && true) (2616, ([some (vs 0 0), some (vp 0 0), some (vp 31 0), some (vp 43 0), some (vp 44 0), some (vi l5), o6, o7, o8], ([vp 43 0, vi (X.2 (l5 + 1).toNatClampNeg), vp 0 0], Gu u x m))) rfl (and_t hg1_0 rfl) ?_
  refine wp_call 314 [vp 0 0, vi (X.2 (l5 + 1).toNatClampNeg), vp 43 0] (2619, ([some (vs 0 0), some (vp 0 0), some (vp 31 0), some (vp 43 0), some (vp 44 0), some (vi l5), o6, o7, o8], ([], Gu u x m))) rfl rfl (Cl.mono h (Nat.le_refl _) ?_)
  rintro r ⟨v1, m2, u3, x4, rfl, h⟩
  · show Wp X (d + 1) 322 (2619, ([some (vs 0 0), some (vp 0 0), some (vp 31 0), some (vp 43 0), some (vp 44 0), some (vi l5), o6, o7, o8], ([vi v1], Gu (u.1 + u3.1, u.2 + u3.2) x4 m2))) Q
    obtain ⟨hg2_0, h⟩ := h
    refine wp_run 7 (inb (l5 + 1) X.1 && true) (2628, ([some (vs 0 0), some (vp 0 0), some (vp 31 0), some (vp 43 0), some (vp 44 0), some (vi l5), some (vi v1), o7, o8], ([vi (X.2 (l5 + 1).toNatClampNeg), vp 31 0], Gu (u.1 + u3.1, u.2 + u3.2) x4 m2))) rfl (and_t hg2_0 rfl) ?_
    refine wp_call 255 [vp 31 0, vi (X.2 (l5 + 1).toNatClampNeg)] (2631, ([some (vs 0 0), some (vp 0 0), some (vp 31 0), some (vp 43 0), some (vp 44 0), some (vi l5), some (vi v1), o7, o8], ([], Gu (u.1 + u3.1, u.2 + u3.2) x4 m2))) rfl rfl (Cl.mono h (Nat.le_refl _) ?_)
    rintro r ⟨v5, m6, rfl, h⟩
    · show Wp X (d + 1) 322 (2631, ([some (vs 0 0), some (vp 0 0), some (vp 31 0), some (vp 43 0), some (vp 44 0), some (vi l5), some (vi v1), o7, o8], ([vi v5], Gu (u.1 + u3.1, u.2 + u3.2) x4 m6))) Q
      refine wp_run 2 true (2634, ([some (vs 0 0), some (vp 0 0), some (vp 31 0), some (vp 43 0), some (vp 44 0), some (vi l5), some (vi v1), some (vi v5), o8], ([vp 31 0], Gu (u.1 + u3.1, u.2 + u3.2) x4 m6))) rfl rfl ?_
      refine wp_call 146 [vp 31 0] (2637, ([some (vs 0 0), some (vp 0 0), some (vp 31 0), some (vp 43 0), some (vp 44 0), some (vi l5), some (vi v1), some (vi v5), o8], ([], Gu (u.1 + u3.1, u.2 + u3.2) x4 m6))) rfl rfl (Cl.mono h (Nat.le_refl _) ?_)
      rintro r ⟨v7, m8, rfl, h⟩
      · show Wp X (d + 1) 322 (2637, ([some (vs 0 0), some (vp 0 0), some (vp 31 0), some (vp 43 0), some (vp 44 0), some (vi l5), some (vi v1), some (vi v5), o8], ([vi v7], Gu (u.1 + u3.1, u.2 + u3.2) x4 m8))) Q
        refine wp_run 2 true ((bif decide (v7 = v1) then 2644 else 2642), ([some (vs 0 0), some (vp 0 0), some (vp 31 0), some (vp 43 0), some (vp 44 0), some (vi l5), some (vi v1), some (vi v5), o8], ([], Gu (u.1 + u3.1, u.2 + u3.2) x4 m8))) rfl rfl ?_
        refine wp_if (v7 = v1) (fun c9 => ?_) (fun c9 => ?_)
        · have h := h.1 c9
          refine wp_run 2 true ((bif decide (¬ v1 = 0) then 2661 else 2649), ([some (vs 0 0), some (vp 0 0), some (vp 31 0), some (vp 43 0), some (vp 44 0), some (vi l5), some (vi v1), some (vi v5), o8], ([], Gu (u.1 + u3.1, u.2 + u3.2) x4 m8))) rfl rfl ?_
          refine wp_if (¬ v1 = 0) (fun c10 => ?_) (fun c10 => ?_)
          · have h := h.1 c10
            refine wp_run 1 true (2999, ([some (vs 0 0), some (vp 0 0), some (vp 31 0), some (vp 43 0), some (vp 44 0), some (vi l5), some (vi v1), some (vi v5), o8], ([], Gu (u.1 + u3.1, u.2 + u3.2) x4 m8))) rfl rfl ?_
            exact h
          · have h := h.2 c10
            refine wp_run 7 true ((bif decide ((lg_cmp (x4.1) (v5.toInt64)) = 0) then 2661 else 2659), ([some (vs 0 0), some (vp 0 0), some (vp 31 0), some (vp 43 0), some (vp 44 0), some (vi l5), some (vi v1), some (vi v5), o8], ([], Gu (u.1 + u3.1, u.2 + u3.2) x4 m8))) rfl rfl ?_
            refine wp_if ((lg_cmp (x4.1) (v5.toInt64)) = 0) (fun c11 => ?_) (fun c11 => ?_)
            · have h := h.1 c11
              refine wp_run 1 true (2999, ([some (vs 0 0), some (vp 0 0), some (vp 31 0), some (vp 43 0), some (vp 44 0), some (vi l5), some (vi v1), some (vi v5), o8], ([], Gu (u.1 + u3.1, u.2 + u3.2) x4 m8))) rfl rfl ?_
              exact h
            · have h := h.2 c11
              refine wp_run 1 true (2660, ([some (vs 0 0), some (vp 0 0), some (vp 31 0), some (vp 43 0), some (vp 44 0), some (vi l5), some (vi v1), some (vi v5), o8], ([vi 0], Gu (u.1 + u3.1, u.2 + u3.2) x4 m8))) rfl rfl ?_
              exact wp_ret rfl h
        · have h := h.2 c9
          refine wp_run 1 true (2643, ([some (vs 0 0), some (vp 0 0), some (vp 31 0), some (vp 43 0), some (vp 44 0), some (vi l5), some (vi v1), some (vi v5), o8], ([vi 0], Gu (u.1 + u3.1, u.2 + u3.2) x4 m8))) rfl rfl ?_
          exact wp_ret rfl h
set_option maxRecDepth 100000 in
set_option maxHeartbeats 4000000 in
theorem vl_law_2664 {X : MX} {d : Nat} {x : Int64 × UInt64} {m : MI} {Q : MRes → Prop} {u : Nat × Nat} {l5 : Int32} {o6 : Option MV} {o7 : Option MV} {o8 : Option MV} (h : (inb (l5 + 1) X.1 = true ∧ Cl X d 315 [vp 0 0, vi (((X.2 (l5 + 1).toNatClampNeg).toUInt32 % 65536).toInt32), vp 43 0] (Gu u x m) (fun r => ∃ (v1 : Int32) (m2 : MI) (u3 : Nat × Nat) (x4 : Int64 × UInt64), r = (.inl (some (vi v1)), Gu u3 x4 m2) ∧ (inb (l5 + 1) X.1 = true ∧ Cl X d 256 [vp 31 0, vi (((X.2 (l5 + 1).toNatClampNeg).toUInt32 % 65536).toInt32)] (Gu (u.1 + u3.1, u.2 + u3.2) x4 m2) (fun r => ∃ (v5 : Int32) (m6 : MI), r = (.inl (some (vi v5)), G x4 m6) ∧ Cl X d 146 [vp 31 0] (Gu (u.1 + u3.1, u.2 + u3.2) x4 m6) (fun r => ∃ (v7 : Int32) (m8 : MI), r = (.inl (some (vi v7)), G x4 m8) ∧ ((v7 = v1 → ((¬ v1 = 0 → Wp X (d + 1) 322 (2999, ([some (vs 0 0), some (vp 0 0), some (vp 31 0), some (vp 43 0), some (vp 44 0), some (vi l5), some (vi v1), some (vi v5), o8], ([], Gu (u.1 + u3.1, u.2 + u3.2) x4 m8))) Q) ∧ (¬ (¬ v1 = 0) → (((lg_cmp (x4.1) (v5.toInt64)) = 0 → Wp X (d + 1) 322 (2999, ([some (vs 0 0), some (vp 0 0), some (vp 31 0), some (vp 43 0), some (vp 44 0), some (vi l5), some (vi v1), some (vi v5), o8], ([], Gu (u.1 + u3.1, u.2 + u3.2) x4 m8))) Q) ∧ (¬ ((lg_cmp (x4.1) (v5.toInt64)) = 0) → Q (.inl (some (vi 0)), Gu (u.1 + u3.1, u.2 + u3.2) x4 m8)))))) ∧ (¬ (v7 = v1) → Q (.inl (some (vi 0)), Gu (u.1 + u3.1, u.2 + u3.2) x4 m8))))))))) : Wp X (d + 1) 322 (2664, ([some (vs 0 0), some (vp 0 0), some (vp 31 0), some (vp 43 0), some (vp 44 0), some (vi l5), o6, o7, o8], ([], Gu u x m))) Q := by
  obtain ⟨hg1_0, h⟩ := h
  refine wp_run 8 (inb (l5 + 1) X.1 && true) (2673, ([some (vs 0 0), some (vp 0 0), some (vp 31 0), some (vp 43 0), some (vp 44 0), some (vi l5), o6, o7, o8], ([vp 43 0, vi (((X.2 (l5 + 1).toNatClampNeg).toUInt32 % 65536).toInt32), vp 0 0], Gu u x m))) rfl (and_t hg1_0 rfl) ?_
  refine wp_call 315 [vp 0 0, vi (((X.2 (l5 + 1).toNatClampNeg).toUInt32 % 65536).toInt32), vp 43 0] (2676, ([some (vs 0 0), some (vp 0 0), some (vp 31 0), some (vp 43 0), some (vp 44 0), some (vi l5), o6, o7, o8], ([], Gu u x m))) rfl rfl (Cl.mono h (Nat.le_refl _) ?_)
  rintro r ⟨v1, m2, u3, x4, rfl, h⟩
  · show Wp X (d + 1) 322 (2676, ([some (vs 0 0), some (vp 0 0), some (vp 31 0), some (vp 43 0), some (vp 44 0), some (vi l5), o6, o7, o8], ([vi v1], Gu (u.1 + u3.1, u.2 + u3.2) x4 m2))) Q
    obtain ⟨hg2_0, h⟩ := h
    refine wp_run 8 (inb (l5 + 1) X.1 && true) (2686, ([some (vs 0 0), some (vp 0 0), some (vp 31 0), some (vp 43 0), some (vp 44 0), some (vi l5), some (vi v1), o7, o8], ([vi (((X.2 (l5 + 1).toNatClampNeg).toUInt32 % 65536).toInt32), vp 31 0], Gu (u.1 + u3.1, u.2 + u3.2) x4 m2))) rfl (and_t hg2_0 rfl) ?_
    refine wp_call 256 [vp 31 0, vi (((X.2 (l5 + 1).toNatClampNeg).toUInt32 % 65536).toInt32)] (2689, ([some (vs 0 0), some (vp 0 0), some (vp 31 0), some (vp 43 0), some (vp 44 0), some (vi l5), some (vi v1), o7, o8], ([], Gu (u.1 + u3.1, u.2 + u3.2) x4 m2))) rfl rfl (Cl.mono h (Nat.le_refl _) ?_)
    rintro r ⟨v5, m6, rfl, h⟩
    · show Wp X (d + 1) 322 (2689, ([some (vs 0 0), some (vp 0 0), some (vp 31 0), some (vp 43 0), some (vp 44 0), some (vi l5), some (vi v1), o7, o8], ([vi v5], Gu (u.1 + u3.1, u.2 + u3.2) x4 m6))) Q
      refine wp_run 2 true (2692, ([some (vs 0 0), some (vp 0 0), some (vp 31 0), some (vp 43 0), some (vp 44 0), some (vi l5), some (vi v1), some (vi v5), o8], ([vp 31 0], Gu (u.1 + u3.1, u.2 + u3.2) x4 m6))) rfl rfl ?_
      refine wp_call 146 [vp 31 0] (2695, ([some (vs 0 0), some (vp 0 0), some (vp 31 0), some (vp 43 0), some (vp 44 0), some (vi l5), some (vi v1), some (vi v5), o8], ([], Gu (u.1 + u3.1, u.2 + u3.2) x4 m6))) rfl rfl (Cl.mono h (Nat.le_refl _) ?_)
      rintro r ⟨v7, m8, rfl, h⟩
      · show Wp X (d + 1) 322 (2695, ([some (vs 0 0), some (vp 0 0), some (vp 31 0), some (vp 43 0), some (vp 44 0), some (vi l5), some (vi v1), some (vi v5), o8], ([vi v7], Gu (u.1 + u3.1, u.2 + u3.2) x4 m8))) Q
        refine wp_run 2 true ((bif decide (v7 = v1) then 2702 else 2700), ([some (vs 0 0), some (vp 0 0), some (vp 31 0), some (vp 43 0), some (vp 44 0), some (vi l5), some (vi v1), some (vi v5), o8], ([], Gu (u.1 + u3.1, u.2 + u3.2) x4 m8))) rfl rfl ?_
        refine wp_if (v7 = v1) (fun c9 => ?_) (fun c9 => ?_)
        · have h := h.1 c9
          refine wp_run 2 true ((bif decide (¬ v1 = 0) then 2719 else 2707), ([some (vs 0 0), some (vp 0 0), some (vp 31 0), some (vp 43 0), some (vp 44 0), some (vi l5), some (vi v1), some (vi v5), o8], ([], Gu (u.1 + u3.1, u.2 + u3.2) x4 m8))) rfl rfl ?_
          refine wp_if (¬ v1 = 0) (fun c10 => ?_) (fun c10 => ?_)
          · have h := h.1 c10
            refine wp_run 1 true (2999, ([some (vs 0 0), some (vp 0 0), some (vp 31 0), some (vp 43 0), some (vp 44 0), some (vi l5), some (vi v1), some (vi v5), o8], ([], Gu (u.1 + u3.1, u.2 + u3.2) x4 m8))) rfl rfl ?_
            exact h
          · have h := h.2 c10
            refine wp_run 7 true ((bif decide ((lg_cmp (x4.1) (v5.toInt64)) = 0) then 2719 else 2717), ([some (vs 0 0), some (vp 0 0), some (vp 31 0), some (vp 43 0), some (vp 44 0), some (vi l5), some (vi v1), some (vi v5), o8], ([], Gu (u.1 + u3.1, u.2 + u3.2) x4 m8))) rfl rfl ?_
            refine wp_if ((lg_cmp (x4.1) (v5.toInt64)) = 0) (fun c11 => ?_) (fun c11 => ?_)
            · have h := h.1 c11
              refine wp_run 1 true (2999, ([some (vs 0 0), some (vp 0 0), some (vp 31 0), some (vp 43 0), some (vp 44 0), some (vi l5), some (vi v1), some (vi v5), o8], ([], Gu (u.1 + u3.1, u.2 + u3.2) x4 m8))) rfl rfl ?_
              exact h
            · have h := h.2 c11
              refine wp_run 1 true (2718, ([some (vs 0 0), some (vp 0 0), some (vp 31 0), some (vp 43 0), some (vp 44 0), some (vi l5), some (vi v1), some (vi v5), o8], ([vi 0], Gu (u.1 + u3.1, u.2 + u3.2) x4 m8))) rfl rfl ?_
              exact wp_ret rfl h
        · have h := h.2 c9
          refine wp_run 1 true (2701, ([some (vs 0 0), some (vp 0 0), some (vp 31 0), some (vp 43 0), some (vp 44 0), some (vi l5), some (vi v1), some (vi v5), o8], ([vi 0], Gu (u.1 + u3.1, u.2 + u3.2) x4 m8))) rfl rfl ?_
          exact wp_ret rfl h
set_option maxRecDepth 100000 in
set_option maxHeartbeats 4000000 in
theorem vl_law_2722 {X : MX} {d : Nat} {x : Int64 × UInt64} {m : MI} {Q : MRes → Prop} {u : Nat × Nat} {l5 : Int32} {o6 : Option MV} {o7 : Option MV} {o8 : Option MV} (h : Cl X d 316 [vp 0 0, vp 43 0] (Gu u x m) (fun r => ∃ (v1 : Int32) (m2 : MI) (u3 : Nat × Nat) (x4 : Int64 × UInt64), r = (.inl (some (vi v1)), Gu u3 x4 m2) ∧ Cl X d 271 [vp 31 0] (Gu (u.1 + u3.1, u.2 + u3.2) x4 m2) (fun r => ∃ (v5 : Int32) (m6 : MI) (u7 : Nat × Nat), r = (.inl (some (vi v5)), Gu u7 x4 m6) ∧ Cl X d 146 [vp 31 0] (Gu ((u.1 + u3.1, u.2 + u3.2).1 + u7.1, (u.1 + u3.1, u.2 + u3.2).2 + u7.2) x4 m6) (fun r => ∃ (v8 : Int32) (m9 : MI), r = (.inl (some (vi v8)), G x4 m9) ∧ ((v8 = v1 → ((¬ v1 = 0 → Wp X (d + 1) 322 (2999, ([some (vs 0 0), some (vp 0 0), some (vp 31 0), some (vp 43 0), some (vp 44 0), some (vi l5), some (vi v1), some (vi v5), o8], ([], Gu ((u.1 + u3.1, u.2 + u3.2).1 + u7.1, (u.1 + u3.1, u.2 + u3.2).2 + u7.2) x4 m9))) Q) ∧ (¬ (¬ v1 = 0) → (((lg_cmp (x4.1) (v5.toInt64)) = 0 → Wp X (d + 1) 322 (2999, ([some (vs 0 0), some (vp 0 0), some (vp 31 0), some (vp 43 0), some (vp 44 0), some (vi l5), some (vi v1), some (vi v5), o8], ([], Gu ((u.1 + u3.1, u.2 + u3.2).1 + u7.1, (u.1 + u3.1, u.2 + u3.2).2 + u7.2) x4 m9))) Q) ∧ (¬ ((lg_cmp (x4.1) (v5.toInt64)) = 0) → Q (.inl (some (vi 0)), Gu ((u.1 + u3.1, u.2 + u3.2).1 + u7.1, (u.1 + u3.1, u.2 + u3.2).2 + u7.2) x4 m9)))))) ∧ (¬ (v8 = v1) → Q (.inl (some (vi 0)), Gu ((u.1 + u3.1, u.2 + u3.2).1 + u7.1, (u.1 + u3.1, u.2 + u3.2).2 + u7.2) x4 m9))))))) : Wp X (d + 1) 322 (2722, ([some (vs 0 0), some (vp 0 0), some (vp 31 0), some (vp 43 0), some (vp 44 0), some (vi l5), o6, o7, o8], ([], Gu u x m))) Q := by
  refine wp_run 2 true (2724, ([some (vs 0 0), some (vp 0 0), some (vp 31 0), some (vp 43 0), some (vp 44 0), some (vi l5), o6, o7, o8], ([vp 43 0, vp 0 0], Gu u x m))) rfl rfl ?_
  refine wp_call 316 [vp 0 0, vp 43 0] (2727, ([some (vs 0 0), some (vp 0 0), some (vp 31 0), some (vp 43 0), some (vp 44 0), some (vi l5), o6, o7, o8], ([], Gu u x m))) rfl rfl (Cl.mono h (Nat.le_refl _) ?_)
  rintro r ⟨v1, m2, u3, x4, rfl, h⟩
  · show Wp X (d + 1) 322 (2727, ([some (vs 0 0), some (vp 0 0), some (vp 31 0), some (vp 43 0), some (vp 44 0), some (vi l5), o6, o7, o8], ([vi v1], Gu (u.1 + u3.1, u.2 + u3.2) x4 m2))) Q
    refine wp_run 2 true (2730, ([some (vs 0 0), some (vp 0 0), some (vp 31 0), some (vp 43 0), some (vp 44 0), some (vi l5), some (vi v1), o7, o8], ([vp 31 0], Gu (u.1 + u3.1, u.2 + u3.2) x4 m2))) rfl rfl ?_
    refine wp_call 271 [vp 31 0] (2733, ([some (vs 0 0), some (vp 0 0), some (vp 31 0), some (vp 43 0), some (vp 44 0), some (vi l5), some (vi v1), o7, o8], ([], Gu (u.1 + u3.1, u.2 + u3.2) x4 m2))) rfl rfl (Cl.mono h (Nat.le_refl _) ?_)
    rintro r ⟨v5, m6, u7, rfl, h⟩
    · show Wp X (d + 1) 322 (2733, ([some (vs 0 0), some (vp 0 0), some (vp 31 0), some (vp 43 0), some (vp 44 0), some (vi l5), some (vi v1), o7, o8], ([vi v5], Gu ((u.1 + u3.1, u.2 + u3.2).1 + u7.1, (u.1 + u3.1, u.2 + u3.2).2 + u7.2) x4 m6))) Q
      refine wp_run 2 true (2736, ([some (vs 0 0), some (vp 0 0), some (vp 31 0), some (vp 43 0), some (vp 44 0), some (vi l5), some (vi v1), some (vi v5), o8], ([vp 31 0], Gu ((u.1 + u3.1, u.2 + u3.2).1 + u7.1, (u.1 + u3.1, u.2 + u3.2).2 + u7.2) x4 m6))) rfl rfl ?_
      refine wp_call 146 [vp 31 0] (2739, ([some (vs 0 0), some (vp 0 0), some (vp 31 0), some (vp 43 0), some (vp 44 0), some (vi l5), some (vi v1), some (vi v5), o8], ([], Gu ((u.1 + u3.1, u.2 + u3.2).1 + u7.1, (u.1 + u3.1, u.2 + u3.2).2 + u7.2) x4 m6))) rfl rfl (Cl.mono h (Nat.le_refl _) ?_)
      rintro r ⟨v8, m9, rfl, h⟩
      · show Wp X (d + 1) 322 (2739, ([some (vs 0 0), some (vp 0 0), some (vp 31 0), some (vp 43 0), some (vp 44 0), some (vi l5), some (vi v1), some (vi v5), o8], ([vi v8], Gu ((u.1 + u3.1, u.2 + u3.2).1 + u7.1, (u.1 + u3.1, u.2 + u3.2).2 + u7.2) x4 m9))) Q
        refine wp_run 2 true ((bif decide (v8 = v1) then 2746 else 2744), ([some (vs 0 0), some (vp 0 0), some (vp 31 0), some (vp 43 0), some (vp 44 0), some (vi l5), some (vi v1), some (vi v5), o8], ([], Gu ((u.1 + u3.1, u.2 + u3.2).1 + u7.1, (u.1 + u3.1, u.2 + u3.2).2 + u7.2) x4 m9))) rfl rfl ?_
        refine wp_if (v8 = v1) (fun c10 => ?_) (fun c10 => ?_)
        · have h := h.1 c10
          refine wp_run 2 true ((bif decide (¬ v1 = 0) then 2763 else 2751), ([some (vs 0 0), some (vp 0 0), some (vp 31 0), some (vp 43 0), some (vp 44 0), some (vi l5), some (vi v1), some (vi v5), o8], ([], Gu ((u.1 + u3.1, u.2 + u3.2).1 + u7.1, (u.1 + u3.1, u.2 + u3.2).2 + u7.2) x4 m9))) rfl rfl ?_
          refine wp_if (¬ v1 = 0) (fun c11 => ?_) (fun c11 => ?_)
          · have h := h.1 c11
            refine wp_run 1 true (2999, ([some (vs 0 0), some (vp 0 0), some (vp 31 0), some (vp 43 0), some (vp 44 0), some (vi l5), some (vi v1), some (vi v5), o8], ([], Gu ((u.1 + u3.1, u.2 + u3.2).1 + u7.1, (u.1 + u3.1, u.2 + u3.2).2 + u7.2) x4 m9))) rfl rfl ?_
            exact h
          · have h := h.2 c11
            refine wp_run 7 true ((bif decide ((lg_cmp (x4.1) (v5.toInt64)) = 0) then 2763 else 2761), ([some (vs 0 0), some (vp 0 0), some (vp 31 0), some (vp 43 0), some (vp 44 0), some (vi l5), some (vi v1), some (vi v5), o8], ([], Gu ((u.1 + u3.1, u.2 + u3.2).1 + u7.1, (u.1 + u3.1, u.2 + u3.2).2 + u7.2) x4 m9))) rfl rfl ?_
            refine wp_if ((lg_cmp (x4.1) (v5.toInt64)) = 0) (fun c12 => ?_) (fun c12 => ?_)
            · have h := h.1 c12
              refine wp_run 1 true (2999, ([some (vs 0 0), some (vp 0 0), some (vp 31 0), some (vp 43 0), some (vp 44 0), some (vi l5), some (vi v1), some (vi v5), o8], ([], Gu ((u.1 + u3.1, u.2 + u3.2).1 + u7.1, (u.1 + u3.1, u.2 + u3.2).2 + u7.2) x4 m9))) rfl rfl ?_
              exact h
            · have h := h.2 c12
              refine wp_run 1 true (2762, ([some (vs 0 0), some (vp 0 0), some (vp 31 0), some (vp 43 0), some (vp 44 0), some (vi l5), some (vi v1), some (vi v5), o8], ([vi 0], Gu ((u.1 + u3.1, u.2 + u3.2).1 + u7.1, (u.1 + u3.1, u.2 + u3.2).2 + u7.2) x4 m9))) rfl rfl ?_
              exact wp_ret rfl h
        · have h := h.2 c10
          refine wp_run 1 true (2745, ([some (vs 0 0), some (vp 0 0), some (vp 31 0), some (vp 43 0), some (vp 44 0), some (vi l5), some (vi v1), some (vi v5), o8], ([vi 0], Gu ((u.1 + u3.1, u.2 + u3.2).1 + u7.1, (u.1 + u3.1, u.2 + u3.2).2 + u7.2) x4 m9))) rfl rfl ?_
          exact wp_ret rfl h
set_option maxRecDepth 100000 in
set_option maxHeartbeats 4000000 in
theorem vl_law_2766 {X : MX} {d : Nat} {x : Int64 × UInt64} {m : MI} {Q : MRes → Prop} {u : Nat × Nat} {l5 : Int32} {o6 : Option MV} {o7 : Option MV} {o8 : Option MV} (h : Cl X d 317 [vp 0 0, vp 43 0] (Gu u x m) (fun r => ∃ (v1 : Int32) (m2 : MI) (u3 : Nat × Nat) (x4 : Int64 × UInt64), r = (.inl (some (vi v1)), Gu u3 x4 m2) ∧ Cl X d 273 [vp 31 0] (Gu (u.1 + u3.1, u.2 + u3.2) x4 m2) (fun r => ∃ (v5 : Int32) (m6 : MI), r = (.inl (some (vi v5)), G x4 m6) ∧ Cl X d 146 [vp 31 0] (Gu (u.1 + u3.1, u.2 + u3.2) x4 m6) (fun r => ∃ (v7 : Int32) (m8 : MI), r = (.inl (some (vi v7)), G x4 m8) ∧ ((v7 = v1 → ((¬ v1 = 0 → Wp X (d + 1) 322 (2999, ([some (vs 0 0), some (vp 0 0), some (vp 31 0), some (vp 43 0), some (vp 44 0), some (vi l5), some (vi v1), some (vi v5), o8], ([], Gu (u.1 + u3.1, u.2 + u3.2) x4 m8))) Q) ∧ (¬ (¬ v1 = 0) → (((lg_cmp (x4.1) (v5.toInt64)) = 0 → Wp X (d + 1) 322 (2999, ([some (vs 0 0), some (vp 0 0), some (vp 31 0), some (vp 43 0), some (vp 44 0), some (vi l5), some (vi v1), some (vi v5), o8], ([], Gu (u.1 + u3.1, u.2 + u3.2) x4 m8))) Q) ∧ (¬ ((lg_cmp (x4.1) (v5.toInt64)) = 0) → Q (.inl (some (vi 0)), Gu (u.1 + u3.1, u.2 + u3.2) x4 m8)))))) ∧ (¬ (v7 = v1) → Q (.inl (some (vi 0)), Gu (u.1 + u3.1, u.2 + u3.2) x4 m8))))))) : Wp X (d + 1) 322 (2766, ([some (vs 0 0), some (vp 0 0), some (vp 31 0), some (vp 43 0), some (vp 44 0), some (vi l5), o6, o7, o8], ([], Gu u x m))) Q := by
  refine wp_run 2 true (2768, ([some (vs 0 0), some (vp 0 0), some (vp 31 0), some (vp 43 0), some (vp 44 0), some (vi l5), o6, o7, o8], ([vp 43 0, vp 0 0], Gu u x m))) rfl rfl ?_
  refine wp_call 317 [vp 0 0, vp 43 0] (2771, ([some (vs 0 0), some (vp 0 0), some (vp 31 0), some (vp 43 0), some (vp 44 0), some (vi l5), o6, o7, o8], ([], Gu u x m))) rfl rfl (Cl.mono h (Nat.le_refl _) ?_)
  rintro r ⟨v1, m2, u3, x4, rfl, h⟩
  · show Wp X (d + 1) 322 (2771, ([some (vs 0 0), some (vp 0 0), some (vp 31 0), some (vp 43 0), some (vp 44 0), some (vi l5), o6, o7, o8], ([vi v1], Gu (u.1 + u3.1, u.2 + u3.2) x4 m2))) Q
    refine wp_run 2 true (2774, ([some (vs 0 0), some (vp 0 0), some (vp 31 0), some (vp 43 0), some (vp 44 0), some (vi l5), some (vi v1), o7, o8], ([vp 31 0], Gu (u.1 + u3.1, u.2 + u3.2) x4 m2))) rfl rfl ?_
    refine wp_call 273 [vp 31 0] (2777, ([some (vs 0 0), some (vp 0 0), some (vp 31 0), some (vp 43 0), some (vp 44 0), some (vi l5), some (vi v1), o7, o8], ([], Gu (u.1 + u3.1, u.2 + u3.2) x4 m2))) rfl rfl (Cl.mono h (Nat.le_refl _) ?_)
    rintro r ⟨v5, m6, rfl, h⟩
    · show Wp X (d + 1) 322 (2777, ([some (vs 0 0), some (vp 0 0), some (vp 31 0), some (vp 43 0), some (vp 44 0), some (vi l5), some (vi v1), o7, o8], ([vi v5], Gu (u.1 + u3.1, u.2 + u3.2) x4 m6))) Q
      refine wp_run 2 true (2780, ([some (vs 0 0), some (vp 0 0), some (vp 31 0), some (vp 43 0), some (vp 44 0), some (vi l5), some (vi v1), some (vi v5), o8], ([vp 31 0], Gu (u.1 + u3.1, u.2 + u3.2) x4 m6))) rfl rfl ?_
      refine wp_call 146 [vp 31 0] (2783, ([some (vs 0 0), some (vp 0 0), some (vp 31 0), some (vp 43 0), some (vp 44 0), some (vi l5), some (vi v1), some (vi v5), o8], ([], Gu (u.1 + u3.1, u.2 + u3.2) x4 m6))) rfl rfl (Cl.mono h (Nat.le_refl _) ?_)
      rintro r ⟨v7, m8, rfl, h⟩
      · show Wp X (d + 1) 322 (2783, ([some (vs 0 0), some (vp 0 0), some (vp 31 0), some (vp 43 0), some (vp 44 0), some (vi l5), some (vi v1), some (vi v5), o8], ([vi v7], Gu (u.1 + u3.1, u.2 + u3.2) x4 m8))) Q
        refine wp_run 2 true ((bif decide (v7 = v1) then 2790 else 2788), ([some (vs 0 0), some (vp 0 0), some (vp 31 0), some (vp 43 0), some (vp 44 0), some (vi l5), some (vi v1), some (vi v5), o8], ([], Gu (u.1 + u3.1, u.2 + u3.2) x4 m8))) rfl rfl ?_
        refine wp_if (v7 = v1) (fun c9 => ?_) (fun c9 => ?_)
        · have h := h.1 c9
          refine wp_run 2 true ((bif decide (¬ v1 = 0) then 2807 else 2795), ([some (vs 0 0), some (vp 0 0), some (vp 31 0), some (vp 43 0), some (vp 44 0), some (vi l5), some (vi v1), some (vi v5), o8], ([], Gu (u.1 + u3.1, u.2 + u3.2) x4 m8))) rfl rfl ?_
          refine wp_if (¬ v1 = 0) (fun c10 => ?_) (fun c10 => ?_)
          · have h := h.1 c10
            refine wp_run 1 true (2999, ([some (vs 0 0), some (vp 0 0), some (vp 31 0), some (vp 43 0), some (vp 44 0), some (vi l5), some (vi v1), some (vi v5), o8], ([], Gu (u.1 + u3.1, u.2 + u3.2) x4 m8))) rfl rfl ?_
            exact h
          · have h := h.2 c10
            refine wp_run 7 true ((bif decide ((lg_cmp (x4.1) (v5.toInt64)) = 0) then 2807 else 2805), ([some (vs 0 0), some (vp 0 0), some (vp 31 0), some (vp 43 0), some (vp 44 0), some (vi l5), some (vi v1), some (vi v5), o8], ([], Gu (u.1 + u3.1, u.2 + u3.2) x4 m8))) rfl rfl ?_
            refine wp_if ((lg_cmp (x4.1) (v5.toInt64)) = 0) (fun c11 => ?_) (fun c11 => ?_)
            · have h := h.1 c11
              refine wp_run 1 true (2999, ([some (vs 0 0), some (vp 0 0), some (vp 31 0), some (vp 43 0), some (vp 44 0), some (vi l5), some (vi v1), some (vi v5), o8], ([], Gu (u.1 + u3.1, u.2 + u3.2) x4 m8))) rfl rfl ?_
              exact h
            · have h := h.2 c11
              refine wp_run 1 true (2806, ([some (vs 0 0), some (vp 0 0), some (vp 31 0), some (vp 43 0), some (vp 44 0), some (vi l5), some (vi v1), some (vi v5), o8], ([vi 0], Gu (u.1 + u3.1, u.2 + u3.2) x4 m8))) rfl rfl ?_
              exact wp_ret rfl h
        · have h := h.2 c9
          refine wp_run 1 true (2789, ([some (vs 0 0), some (vp 0 0), some (vp 31 0), some (vp 43 0), some (vp 44 0), some (vi l5), some (vi v1), some (vi v5), o8], ([vi 0], Gu (u.1 + u3.1, u.2 + u3.2) x4 m8))) rfl rfl ?_
          exact wp_ret rfl h
set_option maxRecDepth 100000 in
set_option maxHeartbeats 4000000 in
theorem vl_law_2810 {X : MX} {d : Nat} {x : Int64 × UInt64} {m : MI} {Q : MRes → Prop} {u : Nat × Nat} {l5 : Int32} {o6 : Option MV} {o7 : Option MV} {o8 : Option MV} (h : Cl X d 318 [vp 0 0, vp 43 0] (Gu u x m) (fun r => ∃ (v1 : Int32) (m2 : MI) (u3 : Nat × Nat) (x4 : Int64 × UInt64), r = (.inl (some (vi v1)), Gu u3 x4 m2) ∧ Cl X d 274 [vp 31 0] (Gu (u.1 + u3.1, u.2 + u3.2) x4 m2) (fun r => ∃ (v5 : Int32) (m6 : MI), r = (.inl (some (vi v5)), G x4 m6) ∧ Cl X d 146 [vp 31 0] (Gu (u.1 + u3.1, u.2 + u3.2) x4 m6) (fun r => ∃ (v7 : Int32) (m8 : MI), r = (.inl (some (vi v7)), G x4 m8) ∧ ((v7 = v1 → ((¬ v1 = 0 → Wp X (d + 1) 322 (2999, ([some (vs 0 0), some (vp 0 0), some (vp 31 0), some (vp 43 0), some (vp 44 0), some (vi l5), some (vi v1), some (vi v5), o8], ([], Gu (u.1 + u3.1, u.2 + u3.2) x4 m8))) Q) ∧ (¬ (¬ v1 = 0) → (((lg_cmp (x4.1) (v5.toInt64)) = 0 → Wp X (d + 1) 322 (2999, ([some (vs 0 0), some (vp 0 0), some (vp 31 0), some (vp 43 0), some (vp 44 0), some (vi l5), some (vi v1), some (vi v5), o8], ([], Gu (u.1 + u3.1, u.2 + u3.2) x4 m8))) Q) ∧ (¬ ((lg_cmp (x4.1) (v5.toInt64)) = 0) → Q (.inl (some (vi 0)), Gu (u.1 + u3.1, u.2 + u3.2) x4 m8)))))) ∧ (¬ (v7 = v1) → Q (.inl (some (vi 0)), Gu (u.1 + u3.1, u.2 + u3.2) x4 m8))))))) : Wp X (d + 1) 322 (2810, ([some (vs 0 0), some (vp 0 0), some (vp 31 0), some (vp 43 0), some (vp 44 0), some (vi l5), o6, o7, o8], ([], Gu u x m))) Q := by
  refine wp_run 2 true (2812, ([some (vs 0 0), some (vp 0 0), some (vp 31 0), some (vp 43 0), some (vp 44 0), some (vi l5), o6, o7, o8], ([vp 43 0, vp 0 0], Gu u x m))) rfl rfl ?_
  refine wp_call 318 [vp 0 0, vp 43 0] (2815, ([some (vs 0 0), some (vp 0 0), some (vp 31 0), some (vp 43 0), some (vp 44 0), some (vi l5), o6, o7, o8], ([], Gu u x m))) rfl rfl (Cl.mono h (Nat.le_refl _) ?_)
  rintro r ⟨v1, m2, u3, x4, rfl, h⟩
  · show Wp X (d + 1) 322 (2815, ([some (vs 0 0), some (vp 0 0), some (vp 31 0), some (vp 43 0), some (vp 44 0), some (vi l5), o6, o7, o8], ([vi v1], Gu (u.1 + u3.1, u.2 + u3.2) x4 m2))) Q
    refine wp_run 2 true (2818, ([some (vs 0 0), some (vp 0 0), some (vp 31 0), some (vp 43 0), some (vp 44 0), some (vi l5), some (vi v1), o7, o8], ([vp 31 0], Gu (u.1 + u3.1, u.2 + u3.2) x4 m2))) rfl rfl ?_
    refine wp_call 274 [vp 31 0] (2821, ([some (vs 0 0), some (vp 0 0), some (vp 31 0), some (vp 43 0), some (vp 44 0), some (vi l5), some (vi v1), o7, o8], ([], Gu (u.1 + u3.1, u.2 + u3.2) x4 m2))) rfl rfl (Cl.mono h (Nat.le_refl _) ?_)
    rintro r ⟨v5, m6, rfl, h⟩
    · show Wp X (d + 1) 322 (2821, ([some (vs 0 0), some (vp 0 0), some (vp 31 0), some (vp 43 0), some (vp 44 0), some (vi l5), some (vi v1), o7, o8], ([vi v5], Gu (u.1 + u3.1, u.2 + u3.2) x4 m6))) Q
      refine wp_run 2 true (2824, ([some (vs 0 0), some (vp 0 0), some (vp 31 0), some (vp 43 0), some (vp 44 0), some (vi l5), some (vi v1), some (vi v5), o8], ([vp 31 0], Gu (u.1 + u3.1, u.2 + u3.2) x4 m6))) rfl rfl ?_
      refine wp_call 146 [vp 31 0] (2827, ([some (vs 0 0), some (vp 0 0), some (vp 31 0), some (vp 43 0), some (vp 44 0), some (vi l5), some (vi v1), some (vi v5), o8], ([], Gu (u.1 + u3.1, u.2 + u3.2) x4 m6))) rfl rfl (Cl.mono h (Nat.le_refl _) ?_)
      rintro r ⟨v7, m8, rfl, h⟩
      · show Wp X (d + 1) 322 (2827, ([some (vs 0 0), some (vp 0 0), some (vp 31 0), some (vp 43 0), some (vp 44 0), some (vi l5), some (vi v1), some (vi v5), o8], ([vi v7], Gu (u.1 + u3.1, u.2 + u3.2) x4 m8))) Q
        refine wp_run 2 true ((bif decide (v7 = v1) then 2834 else 2832), ([some (vs 0 0), some (vp 0 0), some (vp 31 0), some (vp 43 0), some (vp 44 0), some (vi l5), some (vi v1), some (vi v5), o8], ([], Gu (u.1 + u3.1, u.2 + u3.2) x4 m8))) rfl rfl ?_
        refine wp_if (v7 = v1) (fun c9 => ?_) (fun c9 => ?_)
        · have h := h.1 c9
          refine wp_run 2 true ((bif decide (¬ v1 = 0) then 2851 else 2839), ([some (vs 0 0), some (vp 0 0), some (vp 31 0), some (vp 43 0), some (vp 44 0), some (vi l5), some (vi v1), some (vi v5), o8], ([], Gu (u.1 + u3.1, u.2 + u3.2) x4 m8))) rfl rfl ?_
          refine wp_if (¬ v1 = 0) (fun c10 => ?_) (fun c10 => ?_)
          · have h := h.1 c10
            refine wp_run 1 true (2999, ([some (vs 0 0), some (vp 0 0), some (vp 31 0), some (vp 43 0), some (vp 44 0), some (vi l5), some (vi v1), some (vi v5), o8], ([], Gu (u.1 + u3.1, u.2 + u3.2) x4 m8))) rfl rfl ?_
            exact h
          · have h := h.2 c10
            refine wp_run 7 true ((bif decide ((lg_cmp (x4.1) (v5.toInt64)) = 0) then 2851 else 2849), ([some (vs 0 0), some (vp 0 0), some (vp 31 0), some (vp 43 0), some (vp 44 0), some (vi l5), some (vi v1), some (vi v5), o8], ([], Gu (u.1 + u3.1, u.2 + u3.2) x4 m8))) rfl rfl ?_
            refine wp_if ((lg_cmp (x4.1) (v5.toInt64)) = 0) (fun c11 => ?_) (fun c11 => ?_)
            · have h := h.1 c11
              refine wp_run 1 true (2999, ([some (vs 0 0), some (vp 0 0), some (vp 31 0), some (vp 43 0), some (vp 44 0), some (vi l5), some (vi v1), some (vi v5), o8], ([], Gu (u.1 + u3.1, u.2 + u3.2) x4 m8))) rfl rfl ?_
              exact h
            · have h := h.2 c11
              refine wp_run 1 true (2850, ([some (vs 0 0), some (vp 0 0), some (vp 31 0), some (vp 43 0), some (vp 44 0), some (vi l5), some (vi v1), some (vi v5), o8], ([vi 0], Gu (u.1 + u3.1, u.2 + u3.2) x4 m8))) rfl rfl ?_
              exact wp_ret rfl h
        · have h := h.2 c9
          refine wp_run 1 true (2833, ([some (vs 0 0), some (vp 0 0), some (vp 31 0), some (vp 43 0), some (vp 44 0), some (vi l5), some (vi v1), some (vi v5), o8], ([vi 0], Gu (u.1 + u3.1, u.2 + u3.2) x4 m8))) rfl rfl ?_
          exact wp_ret rfl h
set_option maxRecDepth 100000 in
set_option maxHeartbeats 4000000 in
theorem vl_law_2854 {X : MX} {d : Nat} {x : Int64 × UInt64} {m : MI} {Q : MRes → Prop} {u : Nat × Nat} {l5 : Int32} {o6 : Option MV} {o7 : Option MV} {o8 : Option MV} (h : Cl X d 319 [vp 0 0, vp 43 0] (Gu u x m) (fun r => ∃ (v1 : Int32) (m2 : MI) (u3 : Nat × Nat) (x4 : Int64 × UInt64), r = (.inl (some (vi v1)), Gu u3 x4 m2) ∧ Cl X d 275 [vp 31 0] (Gu (u.1 + u3.1, u.2 + u3.2) x4 m2) (fun r => ∃ (v5 : Int32) (m6 : MI), r = (.inl (some (vi v5)), G x4 m6) ∧ Cl X d 146 [vp 31 0] (Gu (u.1 + u3.1, u.2 + u3.2) x4 m6) (fun r => ∃ (v7 : Int32) (m8 : MI), r = (.inl (some (vi v7)), G x4 m8) ∧ ((v7 = v1 → ((¬ v1 = 0 → Wp X (d + 1) 322 (2999, ([some (vs 0 0), some (vp 0 0), some (vp 31 0), some (vp 43 0), some (vp 44 0), some (vi l5), some (vi v1), some (vi v5), o8], ([], Gu (u.1 + u3.1, u.2 + u3.2) x4 m8))) Q) ∧ (¬ (¬ v1 = 0) → (((lg_cmp (x4.1) (v5.toInt64)) = 0 → Wp X (d + 1) 322 (2999, ([some (vs 0 0), some (vp 0 0), some (vp 31 0), some (vp 43 0), some (vp 44 0), some (vi l5), some (vi v1), some (vi v5), o8], ([], Gu (u.1 + u3.1, u.2 + u3.2) x4 m8))) Q) ∧ (¬ ((lg_cmp (x4.1) (v5.toInt64)) = 0) → Q (.inl (some (vi 0)), Gu (u.1 + u3.1, u.2 + u3.2) x4 m8)))))) ∧ (¬ (v7 = v1) → Q (.inl (some (vi 0)), Gu (u.1 + u3.1, u.2 + u3.2) x4 m8))))))) : Wp X (d + 1) 322 (2854, ([some (vs 0 0), some (vp 0 0), some (vp 31 0), some (vp 43 0), some (vp 44 0), some (vi l5), o6, o7, o8], ([], Gu u x m))) Q := by
  refine wp_run 2 true (2856, ([some (vs 0 0), some (vp 0 0), some (vp 31 0), some (vp 43 0), some (vp 44 0), some (vi l5), o6, o7, o8], ([vp 43 0, vp 0 0], Gu u x m))) rfl rfl ?_
  refine wp_call 319 [vp 0 0, vp 43 0] (2859, ([some (vs 0 0), some (vp 0 0), some (vp 31 0), some (vp 43 0), some (vp 44 0), some (vi l5), o6, o7, o8], ([], Gu u x m))) rfl rfl (Cl.mono h (Nat.le_refl _) ?_)
  rintro r ⟨v1, m2, u3, x4, rfl, h⟩
  · show Wp X (d + 1) 322 (2859, ([some (vs 0 0), some (vp 0 0), some (vp 31 0), some (vp 43 0), some (vp 44 0), some (vi l5), o6, o7, o8], ([vi v1], Gu (u.1 + u3.1, u.2 + u3.2) x4 m2))) Q
    refine wp_run 2 true (2862, ([some (vs 0 0), some (vp 0 0), some (vp 31 0), some (vp 43 0), some (vp 44 0), some (vi l5), some (vi v1), o7, o8], ([vp 31 0], Gu (u.1 + u3.1, u.2 + u3.2) x4 m2))) rfl rfl ?_
    refine wp_call 275 [vp 31 0] (2865, ([some (vs 0 0), some (vp 0 0), some (vp 31 0), some (vp 43 0), some (vp 44 0), some (vi l5), some (vi v1), o7, o8], ([], Gu (u.1 + u3.1, u.2 + u3.2) x4 m2))) rfl rfl (Cl.mono h (Nat.le_refl _) ?_)
    rintro r ⟨v5, m6, rfl, h⟩
    · show Wp X (d + 1) 322 (2865, ([some (vs 0 0), some (vp 0 0), some (vp 31 0), some (vp 43 0), some (vp 44 0), some (vi l5), some (vi v1), o7, o8], ([vi v5], Gu (u.1 + u3.1, u.2 + u3.2) x4 m6))) Q
      refine wp_run 2 true (2868, ([some (vs 0 0), some (vp 0 0), some (vp 31 0), some (vp 43 0), some (vp 44 0), some (vi l5), some (vi v1), some (vi v5), o8], ([vp 31 0], Gu (u.1 + u3.1, u.2 + u3.2) x4 m6))) rfl rfl ?_
      refine wp_call 146 [vp 31 0] (2871, ([some (vs 0 0), some (vp 0 0), some (vp 31 0), some (vp 43 0), some (vp 44 0), some (vi l5), some (vi v1), some (vi v5), o8], ([], Gu (u.1 + u3.1, u.2 + u3.2) x4 m6))) rfl rfl (Cl.mono h (Nat.le_refl _) ?_)
      rintro r ⟨v7, m8, rfl, h⟩
      · show Wp X (d + 1) 322 (2871, ([some (vs 0 0), some (vp 0 0), some (vp 31 0), some (vp 43 0), some (vp 44 0), some (vi l5), some (vi v1), some (vi v5), o8], ([vi v7], Gu (u.1 + u3.1, u.2 + u3.2) x4 m8))) Q
        refine wp_run 2 true ((bif decide (v7 = v1) then 2878 else 2876), ([some (vs 0 0), some (vp 0 0), some (vp 31 0), some (vp 43 0), some (vp 44 0), some (vi l5), some (vi v1), some (vi v5), o8], ([], Gu (u.1 + u3.1, u.2 + u3.2) x4 m8))) rfl rfl ?_
        refine wp_if (v7 = v1) (fun c9 => ?_) (fun c9 => ?_)
        · have h := h.1 c9
          refine wp_run 2 true ((bif decide (¬ v1 = 0) then 2895 else 2883), ([some (vs 0 0), some (vp 0 0), some (vp 31 0), some (vp 43 0), some (vp 44 0), some (vi l5), some (vi v1), some (vi v5), o8], ([], Gu (u.1 + u3.1, u.2 + u3.2) x4 m8))) rfl rfl ?_
          refine wp_if (¬ v1 = 0) (fun c10 => ?_) (fun c10 => ?_)
          · have h := h.1 c10
            refine wp_run 1 true (2999, ([some (vs 0 0), some (vp 0 0), some (vp 31 0), some (vp 43 0), some (vp 44 0), some (vi l5), some (vi v1), some (vi v5), o8], ([], Gu (u.1 + u3.1, u.2 + u3.2) x4 m8))) rfl rfl ?_
            exact h
          · have h := h.2 c10
            refine wp_run 7 true ((bif decide ((lg_cmp (x4.1) (v5.toInt64)) = 0) then 2895 else 2893), ([some (vs 0 0), some (vp 0 0), some (vp 31 0), some (vp 43 0), some (vp 44 0), some (vi l5), some (vi v1), some (vi v5), o8], ([], Gu (u.1 + u3.1, u.2 + u3.2) x4 m8))) rfl rfl ?_
            refine wp_if ((lg_cmp (x4.1) (v5.toInt64)) = 0) (fun c11 => ?_) (fun c11 => ?_)
            · have h := h.1 c11
              refine wp_run 1 true (2999, ([some (vs 0 0), some (vp 0 0), some (vp 31 0), some (vp 43 0), some (vp 44 0), some (vi l5), some (vi v1), some (vi v5), o8], ([], Gu (u.1 + u3.1, u.2 + u3.2) x4 m8))) rfl rfl ?_
              exact h
            · have h := h.2 c11
              refine wp_run 1 true (2894, ([some (vs 0 0), some (vp 0 0), some (vp 31 0), some (vp 43 0), some (vp 44 0), some (vi l5), some (vi v1), some (vi v5), o8], ([vi 0], Gu (u.1 + u3.1, u.2 + u3.2) x4 m8))) rfl rfl ?_
              exact wp_ret rfl h
        · have h := h.2 c9
          refine wp_run 1 true (2877, ([some (vs 0 0), some (vp 0 0), some (vp 31 0), some (vp 43 0), some (vp 44 0), some (vi l5), some (vi v1), some (vi v5), o8], ([vi 0], Gu (u.1 + u3.1, u.2 + u3.2) x4 m8))) rfl rfl ?_
          exact wp_ret rfl h
set_option maxRecDepth 100000 in
set_option maxHeartbeats 4000000 in
theorem vl_law_2898 {X : MX} {d : Nat} {x : Int64 × UInt64} {m : MI} {Q : MRes → Prop} {u : Nat × Nat} {l5 : Int32} {o6 : Option MV} {o7 : Option MV} {o8 : Option MV} (h : Cl X d 320 [vp 0 0, vp 43 0] (Gu u x m) (fun r => ∃ (v1 : Int32) (m2 : MI) (u3 : Nat × Nat) (x4 : Int64 × UInt64), r = (.inl (some (vi v1)), Gu u3 x4 m2) ∧ Cl X d 276 [vp 31 0] (Gu (u.1 + u3.1, u.2 + u3.2) x4 m2) (fun r => ∃ (v5 : Int32) (m6 : MI), r = (.inl (some (vi v5)), G x4 m6) ∧ Cl X d 146 [vp 31 0] (Gu (u.1 + u3.1, u.2 + u3.2) x4 m6) (fun r => ∃ (v7 : Int32) (m8 : MI), r = (.inl (some (vi v7)), G x4 m8) ∧ ((v7 = v1 → ((¬ v1 = 0 → Wp X (d + 1) 322 (2999, ([some (vs 0 0), some (vp 0 0), some (vp 31 0), some (vp 43 0), some (vp 44 0), some (vi l5), some (vi v1), some (vi v5), o8], ([], Gu (u.1 + u3.1, u.2 + u3.2) x4 m8))) Q) ∧ (¬ (¬ v1 = 0) → (((lg_cmp (x4.1) (v5.toInt64)) = 0 → Wp X (d + 1) 322 (2999, ([some (vs 0 0), some (vp 0 0), some (vp 31 0), some (vp 43 0), some (vp 44 0), some (vi l5), some (vi v1), some (vi v5), o8], ([], Gu (u.1 + u3.1, u.2 + u3.2) x4 m8))) Q) ∧ (¬ ((lg_cmp (x4.1) (v5.toInt64)) = 0) → Q (.inl (some (vi 0)), Gu (u.1 + u3.1, u.2 + u3.2) x4 m8)))))) ∧ (¬ (v7 = v1) → Q (.inl (some (vi 0)), Gu (u.1 + u3.1, u.2 + u3.2) x4 m8))))))) : Wp X (d + 1) 322 (2898, ([some (vs 0 0), some (vp 0 0), some (vp 31 0), some (vp 43 0), some (vp 44 0), some (vi l5), o6, o7, o8], ([], Gu u x m))) Q := by
  refine wp_run 2 true (2900, ([some (vs 0 0), some (vp 0 0), some (vp 31 0), some (vp 43 0), some (vp 44 0), some (vi l5), o6, o7, o8], ([vp 43 0, vp 0 0], Gu u x m))) rfl rfl ?_
  refine wp_call 320 [vp 0 0, vp 43 0] (2903, ([some (vs 0 0), some (vp 0 0), some (vp 31 0), some (vp 43 0), some (vp 44 0), some (vi l5), o6, o7, o8], ([], Gu u x m))) rfl rfl (Cl.mono h (Nat.le_refl _) ?_)
  rintro r ⟨v1, m2, u3, x4, rfl, h⟩
  · show Wp X (d + 1) 322 (2903, ([some (vs 0 0), some (vp 0 0), some (vp 31 0), some (vp 43 0), some (vp 44 0), some (vi l5), o6, o7, o8], ([vi v1], Gu (u.1 + u3.1, u.2 + u3.2) x4 m2))) Q
    refine wp_run 2 true (2906, ([some (vs 0 0), some (vp 0 0), some (vp 31 0), some (vp 43 0), some (vp 44 0), some (vi l5), some (vi v1), o7, o8], ([vp 31 0], Gu (u.1 + u3.1, u.2 + u3.2) x4 m2))) rfl rfl ?_
    refine wp_call 276 [vp 31 0] (2909, ([some (vs 0 0), some (vp 0 0), some (vp 31 0), some (vp 43 0), some (vp 44 0), some (vi l5), some (vi v1), o7, o8], ([], Gu (u.1 + u3.1, u.2 + u3.2) x4 m2))) rfl rfl (Cl.mono h (Nat.le_refl _) ?_)
    rintro r ⟨v5, m6, rfl, h⟩
    · show Wp X (d + 1) 322 (2909, ([some (vs 0 0), some (vp 0 0), some (vp 31 0), some (vp 43 0), some (vp 44 0), some (vi l5), some (vi v1), o7, o8], ([vi v5], Gu (u.1 + u3.1, u.2 + u3.2) x4 m6))) Q
      refine wp_run 2 true (2912, ([some (vs 0 0), some (vp 0 0), some (vp 31 0), some (vp 43 0), some (vp 44 0), some (vi l5), some (vi v1), some (vi v5), o8], ([vp 31 0], Gu (u.1 + u3.1, u.2 + u3.2) x4 m6))) rfl rfl ?_
      refine wp_call 146 [vp 31 0] (2915, ([some (vs 0 0), some (vp 0 0), some (vp 31 0), some (vp 43 0), some (vp 44 0), some (vi l5), some (vi v1), some (vi v5), o8], ([], Gu (u.1 + u3.1, u.2 + u3.2) x4 m6))) rfl rfl (Cl.mono h (Nat.le_refl _) ?_)
      rintro r ⟨v7, m8, rfl, h⟩
      · show Wp X (d + 1) 322 (2915, ([some (vs 0 0), some (vp 0 0), some (vp 31 0), some (vp 43 0), some (vp 44 0), some (vi l5), some (vi v1), some (vi v5), o8], ([vi v7], Gu (u.1 + u3.1, u.2 + u3.2) x4 m8))) Q
        refine wp_run 2 true ((bif decide (v7 = v1) then 2922 else 2920), ([some (vs 0 0), some (vp 0 0), some (vp 31 0), some (vp 43 0), some (vp 44 0), some (vi l5), some (vi v1), some (vi v5), o8], ([], Gu (u.1 + u3.1, u.2 + u3.2) x4 m8))) rfl rfl ?_
        refine wp_if (v7 = v1) (fun c9 => ?_) (fun c9 => ?_)
        · have h := h.1 c9
          refine wp_run 2 true ((bif decide (¬ v1 = 0) then 2939 else 2927), ([some (vs 0 0), some (vp 0 0), some (vp 31 0), some (vp 43 0), some (vp 44 0), some (vi l5), some (vi v1), some (vi v5), o8], ([], Gu (u.1 + u3.1, u.2 + u3.2) x4 m8))) rfl rfl ?_
          refine wp_if (¬ v1 = 0) (fun c10 => ?_) (fun c10 => ?_)
          · have h := h.1 c10
            refine wp_run 1 true (2999, ([some (vs 0 0), some (vp 0 0), some (vp 31 0), some (vp 43 0), some (vp 44 0), some (vi l5), some (vi v1), some (vi v5), o8], ([], Gu (u.1 + u3.1, u.2 + u3.2) x4 m8))) rfl rfl ?_
            exact h
          · have h := h.2 c10
            refine wp_run 7 true ((bif decide ((lg_cmp (x4.1) (v5.toInt64)) = 0) then 2939 else 2937), ([some (vs 0 0), some (vp 0 0), some (vp 31 0), some (vp 43 0), some (vp 44 0), some (vi l5), some (vi v1), some (vi v5), o8], ([], Gu (u.1 + u3.1, u.2 + u3.2) x4 m8))) rfl rfl ?_
            refine wp_if ((lg_cmp (x4.1) (v5.toInt64)) = 0) (fun c11 => ?_) (fun c11 => ?_)
            · have h := h.1 c11
              refine wp_run 1 true (2999, ([some (vs 0 0), some (vp 0 0), some (vp 31 0), some (vp 43 0), some (vp 44 0), some (vi l5), some (vi v1), some (vi v5), o8], ([], Gu (u.1 + u3.1, u.2 + u3.2) x4 m8))) rfl rfl ?_
              exact h
            · have h := h.2 c11
              refine wp_run 1 true (2938, ([some (vs 0 0), some (vp 0 0), some (vp 31 0), some (vp 43 0), some (vp 44 0), some (vi l5), some (vi v1), some (vi v5), o8], ([vi 0], Gu (u.1 + u3.1, u.2 + u3.2) x4 m8))) rfl rfl ?_
              exact wp_ret rfl h
        · have h := h.2 c9
          refine wp_run 1 true (2921, ([some (vs 0 0), some (vp 0 0), some (vp 31 0), some (vp 43 0), some (vp 44 0), some (vi l5), some (vi v1), some (vi v5), o8], ([vi 0], Gu (u.1 + u3.1, u.2 + u3.2) x4 m8))) rfl rfl ?_
          exact wp_ret rfl h
set_option maxRecDepth 100000 in
set_option maxHeartbeats 4000000 in
theorem vl_law_2942 {X : MX} {d : Nat} {x : Int64 × UInt64} {m : MI} {Q : MRes → Prop} {u : Nat × Nat} {l5 : Int32} {o6 : Option MV} {o7 : Option MV} {o8 : Option MV} (h : Cl X d 55 [vp 0 0] (Gu u x m) (fun r => ∃ (v1 : Int32) (m2 : MI), r = (.inl (some (vi v1)), G x m2) ∧ Cl X d 277 [vp 31 0] (Gu u x m2) (fun r => ∃ (v3 : Int32) (m4 : MI), r = (.inl (some (vi v3)), G x m4) ∧ ((v1 = v3 → Wp X (d + 1) 322 (2999, ([some (vs 0 0), some (vp 0 0), some (vp 31 0), some (vp 43 0), some (vp 44 0), some (vi l5), o6, o7, o8], ([], Gu u x m4))) Q) ∧ (¬ (v1 = v3) → Q (.inl (some (vi 0)), Gu u x m4)))))) : Wp X (d + 1) 322 (2942, ([some (vs 0 0), some (vp 0 0), some (vp 31 0), some (vp 43 0), some (vp 44 0), some (vi l5), o6, o7, o8], ([], Gu u x m))) Q := by
  refine wp_run 1 true (2943, ([some (vs 0 0), some (vp 0 0), some (vp 31 0), some (vp 43 0), some (vp 44 0), some (vi l5), o6, o7, o8], ([vp 0 0], Gu u x m))) rfl rfl ?_
  refine wp_call 55 [vp 0 0] (2946, ([some (vs 0 0), some (vp 0 0), some (vp 31 0), some (vp 43 0), some (vp 44 0), some (vi l5), o6, o7, o8], ([], Gu u x m))) rfl rfl (Cl.mono h (Nat.le_refl _) ?_)
  rintro r ⟨v1, m2, rfl, h⟩
  · show Wp X (d + 1) 322 (2946, ([some (vs 0 0), some (vp 0 0), some (vp 31 0), some (vp 43 0), some (vp 44 0), some (vi l5), o6, o7, o8], ([vi v1], Gu u x m2))) Q
    refine wp_run 1 true (2947, ([some (vs 0 0), some (vp 0 0), some (vp 31 0), some (vp 43 0), some (vp 44 0), some (vi l5), o6, o7, o8], ([vp 31 0, vi v1], Gu u x m2))) rfl rfl ?_
    refine wp_call 277 [vp 31 0] (2950, ([some (vs 0 0), some (vp 0 0), some (vp 31 0), some (vp 43 0), some (vp 44 0), some (vi l5), o6, o7, o8], ([vi v1], Gu u x m2))) rfl rfl (Cl.mono h (Nat.le_refl _) ?_)
    rintro r ⟨v3, m4, rfl, h⟩
    · show Wp X (d + 1) 322 (2950, ([some (vs 0 0), some (vp 0 0), some (vp 31 0), some (vp 43 0), some (vp 44 0), some (vi l5), o6, o7, o8], ([vi v3, vi v1], Gu u x m4))) Q
      refine wp_run 1 true ((bif decide (v1 = v3) then 2999 else 2953), ([some (vs 0 0), some (vp 0 0), some (vp 31 0), some (vp 43 0), some (vp 44 0), some (vi l5), o6, o7, o8], ([], Gu u x m4))) rfl rfl ?_
      refine wp_if (v1 = v3) (fun c5 => ?_) (fun c5 => ?_)
      · have h := h.1 c5
        exact h
      · have h := h.2 c5
        refine wp_run 1 true (2954, ([some (vs 0 0), some (vp 0 0), some (vp 31 0), some (vp 43 0), some (vp 44 0), some (vi l5), o6, o7, o8], ([vi 0], Gu u x m4))) rfl rfl ?_
        exact wp_ret rfl h
set_option maxRecDepth 100000 in
set_option maxHeartbeats 4000000 in
theorem vl_law_2955 {X : MX} {d : Nat} {x : Int64 × UInt64} {m : MI} {Q : MRes → Prop} {u : Nat × Nat} {l5 : Int32} {o6 : Option MV} {o7 : Option MV} {o8 : Option MV} (h : Cl X d 321 [vp 0 0, vp 43 0] (Gu u x m) (fun r => ∃ (v1 : Int32) (m2 : MI) (u3 : Nat × Nat) (x4 : Int64 × UInt64), r = (.inl (some (vi v1)), Gu u3 x4 m2) ∧ Cl X d 278 [vp 31 0] (Gu (u.1 + u3.1, u.2 + u3.2) x4 m2) (fun r => ∃ (v5 : Int32) (m6 : MI), r = (.inl (some (vi v5)), G x4 m6) ∧ Cl X d 146 [vp 31 0] (Gu (u.1 + u3.1, u.2 + u3.2) x4 m6) (fun r => ∃ (v7 : Int32) (m8 : MI), r = (.inl (some (vi v7)), G x4 m8) ∧ ((v7 = v1 → ((¬ v1 = 0 → Wp X (d + 1) 322 (2999, ([some (vs 0 0), some (vp 0 0), some (vp 31 0), some (vp 43 0), some (vp 44 0), some (vi l5), some (vi v1), some (vi v5), o8], ([], Gu (u.1 + u3.1, u.2 + u3.2) x4 m8))) Q) ∧ (¬ (¬ v1 = 0) → (((lg_cmp (x4.1) (v5.toInt64)) = 0 → Wp X (d + 1) 322 (2999, ([some (vs 0 0), some (vp 0 0), some (vp 31 0), some (vp 43 0), some (vp 44 0), some (vi l5), some (vi v1), some (vi v5), o8], ([], Gu (u.1 + u3.1, u.2 + u3.2) x4 m8))) Q) ∧ (¬ ((lg_cmp (x4.1) (v5.toInt64)) = 0) → Q (.inl (some (vi 0)), Gu (u.1 + u3.1, u.2 + u3.2) x4 m8)))))) ∧ (¬ (v7 = v1) → Q (.inl (some (vi 0)), Gu (u.1 + u3.1, u.2 + u3.2) x4 m8))))))) : Wp X (d + 1) 322 (2955, ([some (vs 0 0), some (vp 0 0), some (vp 31 0), some (vp 43 0), some (vp 44 0), some (vi l5), o6, o7, o8], ([], Gu u x m))) Q := by
  refine wp_run 2 true (2957, ([some (vs 0 0), some (vp 0 0), some (vp 31 0), some (vp 43 0), some (vp 44 0), some (vi l5), o6, o7, o8], ([vp 43 0, vp 0 0], Gu u x m))) rfl rfl ?_
  refine wp_call 321 [vp 0 0, vp 43 0] (2960, ([some (vs 0 0), some (vp 0 0), some (vp 31 0), some (vp 43 0), some (vp 44 0), some (vi l5), o6, o7, o8], ([], Gu u x m))) rfl rfl (Cl.mono h (Nat.le_refl _) ?_)
  rintro r ⟨v1, m2, u3, x4, rfl, h⟩
  · show Wp X (d + 1) 322 (2960, ([some (vs 0 0), some (vp 0 0), some (vp 31 0), some (vp 43 0), some (vp 44 0), some (vi l5), o6, o7, o8], ([vi v1], Gu (u.1 + u3.1, u.2 + u3.2) x4 m2))) Q
    refine wp_run 2 true (2963, ([some (vs 0 0), some (vp 0 0), some (vp 31 0), some (vp 43 0), some (vp 44 0), some (vi l5), some (vi v1), o7, o8], ([vp 31 0], Gu (u.1 + u3.1, u.2 + u3.2) x4 m2))) rfl rfl ?_
    refine wp_call 278 [vp 31 0] (2966, ([some (vs 0 0), some (vp 0 0), some (vp 31 0), some (vp 43 0), some (vp 44 0), some (vi l5), some (vi v1), o7, o8], ([], Gu (u.1 + u3.1, u.2 + u3.2) x4 m2))) rfl rfl (Cl.mono h (Nat.le_refl _) ?_)
    rintro r ⟨v5, m6, rfl, h⟩
    · show Wp X (d + 1) 322 (2966, ([some (vs 0 0), some (vp 0 0), some (vp 31 0), some (vp 43 0), some (vp 44 0), some (vi l5), some (vi v1), o7, o8], ([vi v5], Gu (u.1 + u3.1, u.2 + u3.2) x4 m6))) Q
      refine wp_run 2 true (2969, ([some (vs 0 0), some (vp 0 0), some (vp 31 0), some (vp 43 0), some (vp 44 0), some (vi l5), some (vi v1), some (vi v5), o8], ([vp 31 0], Gu (u.1 + u3.1, u.2 + u3.2) x4 m6))) rfl rfl ?_
      refine wp_call 146 [vp 31 0] (2972, ([some (vs 0 0), some (vp 0 0), some (vp 31 0), some (vp 43 0), some (vp 44 0), some (vi l5), some (vi v1), some (vi v5), o8], ([], Gu (u.1 + u3.1, u.2 + u3.2) x4 m6))) rfl rfl (Cl.mono h (Nat.le_refl _) ?_)
      rintro r ⟨v7, m8, rfl, h⟩
      · show Wp X (d + 1) 322 (2972, ([some (vs 0 0), some (vp 0 0), some (vp 31 0), some (vp 43 0), some (vp 44 0), some (vi l5), some (vi v1), some (vi v5), o8], ([vi v7], Gu (u.1 + u3.1, u.2 + u3.2) x4 m8))) Q
        refine wp_run 2 true ((bif decide (v7 = v1) then 2979 else 2977), ([some (vs 0 0), some (vp 0 0), some (vp 31 0), some (vp 43 0), some (vp 44 0), some (vi l5), some (vi v1), some (vi v5), o8], ([], Gu (u.1 + u3.1, u.2 + u3.2) x4 m8))) rfl rfl ?_
        refine wp_if (v7 = v1) (fun c9 => ?_) (fun c9 => ?_)
        · have h := h.1 c9
          refine wp_run 2 true ((bif decide (¬ v1 = 0) then 2996 else 2984), ([some (vs 0 0), some (vp 0 0), some (vp 31 0), some (vp 43 0), some (vp 44 0), some (vi l5), some (vi v1), some (vi v5), o8], ([], Gu (u.1 + u3.1, u.2 + u3.2) x4 m8))) rfl rfl ?_
          refine wp_if (¬ v1 = 0) (fun c10 => ?_) (fun c10 => ?_)
          · have h := h.1 c10
            refine wp_run 1 true (2999, ([some (vs 0 0), some (vp 0 0), some (vp 31 0), some (vp 43 0), some (vp 44 0), some (vi l5), some (vi v1), some (vi v5), o8], ([], Gu (u.1 + u3.1, u.2 + u3.2) x4 m8))) rfl rfl ?_
            exact h
          · have h := h.2 c10
            refine wp_run 7 true ((bif decide ((lg_cmp (x4.1) (v5.toInt64)) = 0) then 2996 else 2994), ([some (vs 0 0), some (vp 0 0), some (vp 31 0), some (vp 43 0), some (vp 44 0), some (vi l5), some (vi v1), some (vi v5), o8], ([], Gu (u.1 + u3.1, u.2 + u3.2) x4 m8))) rfl rfl ?_
            refine wp_if ((lg_cmp (x4.1) (v5.toInt64)) = 0) (fun c11 => ?_) (fun c11 => ?_)
            · have h := h.1 c11
              refine wp_run 1 true (2999, ([some (vs 0 0), some (vp 0 0), some (vp 31 0), some (vp 43 0), some (vp 44 0), some (vi l5), some (vi v1), some (vi v5), o8], ([], Gu (u.1 + u3.1, u.2 + u3.2) x4 m8))) rfl rfl ?_
              exact h
            · have h := h.2 c11
              refine wp_run 1 true (2995, ([some (vs 0 0), some (vp 0 0), some (vp 31 0), some (vp 43 0), some (vp 44 0), some (vi l5), some (vi v1), some (vi v5), o8], ([vi 0], Gu (u.1 + u3.1, u.2 + u3.2) x4 m8))) rfl rfl ?_
              exact wp_ret rfl h
        · have h := h.2 c9
          refine wp_run 1 true (2978, ([some (vs 0 0), some (vp 0 0), some (vp 31 0), some (vp 43 0), some (vp 44 0), some (vi l5), some (vi v1), some (vi v5), o8], ([vi 0], Gu (u.1 + u3.1, u.2 + u3.2) x4 m8))) rfl rfl ?_
          exact wp_ret rfl h
set_option maxRecDepth 100000 in
set_option maxHeartbeats 4000000 in
theorem vl_law_2999 {X : MX} {d : Nat} {x : Int64 × UInt64} {m : MI} {Q : MRes → Prop} {u : Nat × Nat} {l5 : Int32} {o6 : Option MV} {o7 : Option MV} {o8 : Option MV} (h : (∀ t1 : Int32, t1 = l5 + 6 → Wp X (d + 1) 322 (28, ([some (vs 0 0), some (vp 0 0), some (vp 31 0), some (vp 43 0), some (vp 44 0), some (vi t1), o6, o7, o8], ([], Gu u x m))) Q)) : Wp X (d + 1) 322 (2999, ([some (vs 0 0), some (vp 0 0), some (vp 31 0), some (vp 43 0), some (vp 44 0), some (vi l5), o6, o7, o8], ([], Gu u x m))) Q := by
  refine wp_run 1 true (3002, ([some (vs 0 0), some (vp 0 0), some (vp 31 0), some (vp 43 0), some (vp 44 0), some (vi (l5 + 6)), o6, o7, o8], ([], Gu u x m))) rfl rfl ?_
  refine wpg (fun t1 => Wp X (d + 1) 322 (3002, ([some (vs 0 0), some (vp 0 0), some (vp 31 0), some (vp 43 0), some (vp 44 0), some (vi t1), o6, o7, o8], ([], Gu u x m))) Q) (l5 + 6) (fun t1 ht1 => ?_)
  have h := h t1 ht1
  refine wp_run 1 true (28, ([some (vs 0 0), some (vp 0 0), some (vp 31 0), some (vp 43 0), some (vp 44 0), some (vi t1), o6, o7, o8], ([], Gu u x m))) rfl rfl ?_
  exact h
