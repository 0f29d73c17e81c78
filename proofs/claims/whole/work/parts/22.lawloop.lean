def Law_L18 (L : Nat) (xs : Nat → Int32) : Nat → Int32 → Hp → Prop
  | 0, _, _ => False
  | n + 1, x3, h => (((Int32.ofNat L) - 6) < x3 → True) ∧ (¬ ((Int32.ofNat L) - 6) < x3 → vp_in x3 L ∧ ∀ v1 : Int32, v1 = ((xs (x3).toNatClampNeg) &&& 63) → ∀ J1566 : Hp → Prop, J1566 = (fun h2 => ∀ v3 : Int32, v3 = (x3 + 6) → Law_L18 L xs n v3 h2) → (v1.toInt < 0 ∨ 43 < v1.toInt → J1566 h) ∧ (v1 = 0 → vp_in (x3 + 1) L ∧ vp_in (x3 + 2) L ∧ vp_in (x3 + 3) L ∧ vp_in (x3 + 4) L ∧ vp_in (x3 + 5) L ∧ C_feed (xs ((x3 + 1)).toNatClampNeg) (xs ((x3 + 2)).toNatClampNeg) (xs ((x3 + 3)).toNatClampNeg) (xs ((x3 + 4)).toNatClampNeg) (xs ((x3 + 5)).toNatClampNeg) h (fun r4 h5 => vp_in (x3 + 1) L ∧ vp_in (x3 + 2) L ∧ vp_in (x3 + 3) L ∧ vp_in (x3 + 4) L ∧ vp_in (x3 + 5) L ∧ M_feed (xs ((x3 + 1)).toNatClampNeg) (xs ((x3 + 2)).toNatClampNeg) (xs ((x3 + 3)).toNatClampNeg) (xs ((x3 + 4)).toNatClampNeg) (xs ((x3 + 5)).toNatClampNeg) h5 (fun r6 h7 => (r4 = r6 → J1566 h7) ∧ (¬ r4 = r6 → False)))) ∧ (v1 = 1 → vp_in (x3 + 1) L ∧ C_land (xs ((x3 + 1)).toNatClampNeg) h (fun r8 h9 => vp_in (x3 + 1) L ∧ M_land (xs ((x3 + 1)).toNatClampNeg) h9 (fun r10 h11 => (r8 = r10 → J1566 h11) ∧ (¬ r8 = r10 → False)))) ∧ (v1 = 2 → vp_in (x3 + 1) L ∧ C_fault (xs ((x3 + 1)).toNatClampNeg) h (fun r12 h13 => vp_in (x3 + 1) L ∧ M_fault (xs ((x3 + 1)).toNatClampNeg) h13 (fun r14 h15 => (r12 = r14 → J1566 h15) ∧ (¬ r12 = r14 → False)))) ∧ (v1 = 3 → vp_in (x3 + 1) L ∧ vp_in (x3 + 2) L ∧ C_place (xs ((x3 + 1)).toNatClampNeg) (xs ((x3 + 2)).toNatClampNeg) h (fun r16 h17 => vp_in (x3 + 1) L ∧ vp_in (x3 + 2) L ∧ M_place (xs ((x3 + 1)).toNatClampNeg) (xs ((x3 + 2)).toNatClampNeg) h17 (fun r18 h19 => (r16 = r18 → J1566 h19) ∧ (¬ r16 = r18 → False)))) ∧ (v1 = 4 → vp_in (x3 + 1) L ∧ vp_in (x3 + 2) L ∧ C_road (xs ((x3 + 1)).toNatClampNeg) (xs ((x3 + 2)).toNatClampNeg) h (fun r20 h21 => vp_in (x3 + 1) L ∧ vp_in (x3 + 2) L ∧ M_road (xs ((x3 + 1)).toNatClampNeg) (xs ((x3 + 2)).toNatClampNeg) h21 (fun r22 h23 => (r20 = r22 → J1566 h23) ∧ (¬ r20 = r22 → False)))) ∧ (v1 = 5 → vp_in (x3 + 1) L ∧ C_pay (xs ((x3 + 1)).toNatClampNeg) h (fun r24 h25 => vp_in (x3 + 1) L ∧ M_pay (xs ((x3 + 1)).toNatClampNeg) h25 (fun r26 h27 => (r24 = r26 → J1566 h27) ∧ (¬ r24 = r26 → False)))) ∧ (v1 = 6 → vp_in (x3 + 1) L ∧ C_move (xs ((x3 + 1)).toNatClampNeg) h (fun r28 h29 => vp_in (x3 + 1) L ∧ M_move (xs ((x3 + 1)).toNatClampNeg) h29 (fun r30 h31 => (r28 = r30 → J1566 h31) ∧ (¬ r28 = r30 → False)))) ∧ (v1 = 7 → vp_in (x3 + 1) L ∧ C_moves (xs ((x3 + 1)).toNatClampNeg) h (fun r32 h33 => vp_in (x3 + 1) L ∧ M_moves (xs ((x3 + 1)).toNatClampNeg) h33 (fun r34 h35 => (r32 = r34 → J1566 h35) ∧ (¬ r32 = r34 → False)))) ∧ (v1 = 8 → vp_in (x3 + 1) L ∧ vp_in (x3 + 2) L ∧ C_plan (xs ((x3 + 1)).toNatClampNeg) (xs ((x3 + 2)).toNatClampNeg) h (fun r36 h37 => vp_in (x3 + 1) L ∧ vp_in (x3 + 2) L ∧ M_plan (xs ((x3 + 1)).toNatClampNeg) (xs ((x3 + 2)).toNatClampNeg) h37 (fun r38 h39 => (r36 = r38 → J1566 h39) ∧ (¬ r36 = r38 → False)))) ∧ (v1 = 9 → vp_in (x3 + 1) L ∧ C_plays (xs ((x3 + 1)).toNatClampNeg) h (fun r40 h41 => vp_in (x3 + 1) L ∧ M_plays (xs ((x3 + 1)).toNatClampNeg) h41 (fun r42 h43 => (r40 = r42 → J1566 h43) ∧ (¬ r40 = r42 → False)))) ∧ (v1 = 10 → vp_in (x3 + 1) L ∧ C_weather (xs ((x3 + 1)).toNatClampNeg) h (fun r44 h45 => vp_in (x3 + 1) L ∧ M_weather (xs ((x3 + 1)).toNatClampNeg) h45 (fun r46 h47 => (r44 = r46 → J1566 h47) ∧ (¬ r44 = r46 → False)))) ∧ (v1 = 11 → vp_in (x3 + 1) L ∧ C_undo (xs ((x3 + 1)).toNatClampNeg) h (fun r48 h49 => vp_in (x3 + 1) L ∧ M_undo (xs ((x3 + 1)).toNatClampNeg) h49 (fun r50 h51 => (r48 = r50 → J1566 h51) ∧ (¬ r48 = r50 → False)))) ∧ (v1 = 12 → vp_in (x3 + 1) L ∧ vp_in (x3 + 2) L ∧ C_judge (xs ((x3 + 1)).toNatClampNeg) (xs ((x3 + 2)).toNatClampNeg) h (fun r52 h53 => vp_in (x3 + 1) L ∧ vp_in (x3 + 2) L ∧ M_judge (xs ((x3 + 1)).toNatClampNeg) (xs ((x3 + 2)).toNatClampNeg) h53 (fun r54 h55 => (r52 = r54 → J1566 h55) ∧ (¬ r52 = r54 → False)))) ∧ (v1 = 13 → vp_in (x3 + 1) L ∧ C_perform (xs ((x3 + 1)).toNatClampNeg) h (fun r56 h57 => vp_in (x3 + 1) L ∧ M_perform (xs ((x3 + 1)).toNatClampNeg) h57 (fun r58 h59 => (r56 = r58 → J1566 h59) ∧ (¬ r56 = r58 → False)))) ∧ (v1 = 14 → vp_in (x3 + 1) L ∧ vp_in (x3 + 2) L ∧ C_journey (xs ((x3 + 1)).toNatClampNeg) (xs ((x3 + 2)).toNatClampNeg) h (fun r60 h61 => vp_in (x3 + 1) L ∧ vp_in (x3 + 2) L ∧ M_journey (xs ((x3 + 1)).toNatClampNeg) (xs ((x3 + 2)).toNatClampNeg) h61 (fun r62 h63 => (r60 = r62 → J1566 h63) ∧ (¬ r60 = r62 → False)))) ∧ (v1 = 15 → C_rings  h (fun r64 h65 => M_rings  h65 (fun r66 h67 => (r64 = r66 → J1566 h67) ∧ (¬ r64 = r66 → False)))) ∧ (v1 = 16 → vp_in (x3 + 1) L ∧ vp_in (x3 + 2) L ∧ vp_in (x3 + 3) L ∧ C_ring (xs ((x3 + 1)).toNatClampNeg) (xs ((x3 + 2)).toNatClampNeg) (xs ((x3 + 3)).toNatClampNeg) h (fun r68 h69 => vp_in (x3 + 1) L ∧ vp_in (x3 + 2) L ∧ vp_in (x3 + 3) L ∧ M_ring (xs ((x3 + 1)).toNatClampNeg) (xs ((x3 + 2)).toNatClampNeg) (xs ((x3 + 3)).toNatClampNeg) h69 (fun r70 h71 => (r68 = r70 → J1566 h71) ∧ (¬ r68 = r70 → False)))) ∧ (v1 = 17 → vp_in (x3 + 1) L ∧ C_reach (xs ((x3 + 1)).toNatClampNeg) h (fun r72 h73 => vp_in (x3 + 1) L ∧ M_reach (xs ((x3 + 1)).toNatClampNeg) h73 (fun r74 h75 => (r72 = r74 → J1566 h75) ∧ (¬ r72 = r74 → False)))) ∧ (v1 = 18 → vp_in (x3 + 1) L ∧ C_onRing (xs ((x3 + 1)).toNatClampNeg) h (fun r76 h77 => vp_in (x3 + 1) L ∧ M_onRing (xs ((x3 + 1)).toNatClampNeg) h77 (fun r78 h79 => (r76 = r78 → J1566 h79) ∧ (¬ r76 = r78 → False)))) ∧ (v1 = 19 → vp_in (x3 + 1) L ∧ vp_in (x3 + 2) L ∧ C_worth (xs ((x3 + 1)).toNatClampNeg) (xs ((x3 + 2)).toNatClampNeg) h (fun r80 h81 => vp_in (x3 + 1) L ∧ vp_in (x3 + 2) L ∧ M_worth (xs ((x3 + 1)).toNatClampNeg) (xs ((x3 + 2)).toNatClampNeg) h81 (fun r82 h83 => (r80 = r82 → J1566 h83) ∧ (¬ r80 = r82 → False)))) ∧ (v1 = 20 → vp_in (x3 + 1) L ∧ C_wins (xs ((x3 + 1)).toNatClampNeg) h (fun r84 h85 => vp_in (x3 + 1) L ∧ M_wins (xs ((x3 + 1)).toNatClampNeg) h85 (fun r86 h87 => (r84 = r86 → J1566 h87) ∧ (¬ r84 = r86 → False)))) ∧ (v1 = 21 → vp_in (x3 + 1) L ∧ vp_in (x3 + 2) L ∧ vp_in (x3 + 3) L ∧ C_atLeast (xs ((x3 + 1)).toNatClampNeg) (xs ((x3 + 2)).toNatClampNeg) (xs ((x3 + 3)).toNatClampNeg) h (fun r88 h89 => vp_in (x3 + 1) L ∧ vp_in (x3 + 2) L ∧ vp_in (x3 + 3) L ∧ M_atLeast (xs ((x3 + 1)).toNatClampNeg) (xs ((x3 + 2)).toNatClampNeg) (xs ((x3 + 3)).toNatClampNeg) h89 (fun r90 h91 => (r88 = r90 → J1566 h91) ∧ (¬ r88 = r90 → False)))) ∧ (v1 = 22 → vp_in (x3 + 1) L ∧ C_best (xs ((x3 + 1)).toNatClampNeg) h (fun r92 h93 => vp_in (x3 + 1) L ∧ M_best (xs ((x3 + 1)).toNatClampNeg) h93 (fun r94 h95 => (r92 = r94 → J1566 h95) ∧ (¬ r92 = r94 → False)))) ∧ (v1 = 23 → vp_in (x3 + 1) L ∧ vp_in (x3 + 2) L ∧ vp_in (x3 + 3) L ∧ C_secures (xs ((x3 + 1)).toNatClampNeg) (xs ((x3 + 2)).toNatClampNeg) (xs ((x3 + 3)).toNatClampNeg) h (fun r96 h97 => vp_in (x3 + 1) L ∧ vp_in (x3 + 2) L ∧ vp_in (x3 + 3) L ∧ M_secures (xs ((x3 + 1)).toNatClampNeg) (xs ((x3 + 2)).toNatClampNeg) (xs ((x3 + 3)).toNatClampNeg) h97 (fun r98 h99 => (r96 = r98 → J1566 h99) ∧ (¬ r96 = r98 → False)))) ∧ (v1 = 24 → C_meet  h (fun r100 h101 => M_meet  h101 (fun r102 h103 => (r100 = r102 → J1566 h103) ∧ (¬ r100 = r102 → False)))) ∧ (v1 = 25 → vp_in (x3 + 1) L ∧ vp_in (x3 + 2) L ∧ C_plans (xs ((x3 + 1)).toNatClampNeg) (xs ((x3 + 2)).toNatClampNeg) h (fun r104 h105 => vp_in (x3 + 1) L ∧ vp_in (x3 + 2) L ∧ M_plans (xs ((x3 + 1)).toNatClampNeg) (xs ((x3 + 2)).toNatClampNeg) h105 (fun r106 h107 => (r104 = r106 → J1566 h107) ∧ (¬ r104 = r106 → False)))) ∧ (v1 = 26 → vp_in (x3 + 1) L ∧ C_energy (xs ((x3 + 1)).toNatClampNeg) h (fun r108 h109 => vp_in (x3 + 1) L ∧ M_energy (xs ((x3 + 1)).toNatClampNeg) h109 (fun r110 h111 => (r108 = r110 → J1566 h111) ∧ (¬ r108 = r110 → False)))) ∧ (v1 = 27 → vp_in (x3 + 1) L ∧ vp_in (x3 + 2) L ∧ C_at (((((xs ((x3 + 1)).toNatClampNeg)).toInt64) <<< (((32 : Int32)).toInt64 &&& 63)) ||| ((((xs ((x3 + 2)).toNatClampNeg)).toInt64) &&& (4294967295 : Int64))) h (fun r112 h113 => vp_in (x3 + 1) L ∧ vp_in (x3 + 2) L ∧ M_at (((((xs ((x3 + 1)).toNatClampNeg)).toInt64) <<< (((32 : Int32)).toInt64 &&& 63)) ||| ((((xs ((x3 + 2)).toNatClampNeg)).toInt64) &&& (4294967295 : Int64))) h113 (fun r114 h115 => (r112 = r114 → J1566 h115) ∧ (¬ r112 = r114 → False)))) ∧ (v1 = 28 → vp_in (x3 + 1) L ∧ vp_in (x3 + 2) L ∧ C_purse (((((xs ((x3 + 1)).toNatClampNeg)).toInt64) <<< (((32 : Int32)).toInt64 &&& 63)) ||| ((((xs ((x3 + 2)).toNatClampNeg)).toInt64) &&& (4294967295 : Int64))) h (fun r116 h117 => vp_in (x3 + 1) L ∧ vp_in (x3 + 2) L ∧ M_purse (((((xs ((x3 + 1)).toNatClampNeg)).toInt64) <<< (((32 : Int32)).toInt64 &&& 63)) ||| ((((xs ((x3 + 2)).toNatClampNeg)).toInt64) &&& (4294967295 : Int64))) h117 (fun r118 h119 => (r116 = r118 → J1566 h119) ∧ (¬ r116 = r118 → False)))) ∧ (v1 = 29 → vp_in (x3 + 1) L ∧ C_round (xs ((x3 + 1)).toNatClampNeg) h (fun r120 h121 => vp_in (x3 + 1) L ∧ M_round (xs ((x3 + 1)).toNatClampNeg) h121 (fun r122 h123 => (r120 = r122 → J1566 h123) ∧ (¬ r120 = r122 → False)))) ∧ (v1 = 30 → vp_in (x3 + 1) L ∧ C_paid (xs ((x3 + 1)).toNatClampNeg) h (fun r124 h125 => vp_in (x3 + 1) L ∧ M_paid (xs ((x3 + 1)).toNatClampNeg) h125 (fun r126 h127 => (r124 = r126 → J1566 h127) ∧ (¬ r124 = r126 → False)))) ∧ (v1 = 31 → vp_in (x3 + 1) L ∧ vp_in (x3 + 2) L ∧ C_rows (xs ((x3 + 1)).toNatClampNeg) (xs ((x3 + 2)).toNatClampNeg) h (fun r128 h129 => vp_in (x3 + 1) L ∧ vp_in (x3 + 2) L ∧ M_rows (xs ((x3 + 1)).toNatClampNeg) (xs ((x3 + 2)).toNatClampNeg) h129 (fun r130 h131 => (r128 = r130 → J1566 h131) ∧ (¬ r128 = r130 → False)))) ∧ (v1 = 32 → vp_in (x3 + 1) L ∧ C_sums (xs ((x3 + 1)).toNatClampNeg) h (fun r132 h133 => vp_in (x3 + 1) L ∧ M_sums (xs ((x3 + 1)).toNatClampNeg) h133 (fun r134 h135 => (r132 = r134 → J1566 h135) ∧ (¬ r132 = r134 → False)))) ∧ (v1 = 33 → vp_in (x3 + 1) L ∧ vp_in (x3 + 2) L ∧ C_sumsAt (xs ((x3 + 1)).toNatClampNeg) (xs ((x3 + 2)).toNatClampNeg) h (fun r136 h137 => vp_in (x3 + 1) L ∧ vp_in (x3 + 2) L ∧ M_sumsAt (xs ((x3 + 1)).toNatClampNeg) (xs ((x3 + 2)).toNatClampNeg) h137 (fun r138 h139 => (r136 = r138 → J1566 h139) ∧ (¬ r136 = r138 → False)))) ∧ (v1 = 34 → vp_in (x3 + 1) L ∧ C_weathers (xs ((x3 + 1)).toNatClampNeg) h (fun r140 h141 => vp_in (x3 + 1) L ∧ M_weathers (xs ((x3 + 1)).toNatClampNeg) h141 (fun r142 h143 => (r140 = r142 → J1566 h143) ∧ (¬ r140 = r142 → False)))) ∧ (v1 = 35 → vp_in (x3 + 1) L ∧ C_ask (xs ((x3 + 1)).toNatClampNeg) h (fun r144 h145 => vp_in (x3 + 1) L ∧ M_ask (xs ((x3 + 1)).toNatClampNeg) h145 (fun r146 h147 => (r144 = r146 → J1566 h147) ∧ (¬ r144 = r146 → False)))) ∧ (v1 = 36 → vp_in (x3 + 1) L ∧ vp_in (x3 + 2) L ∧ C_chance (xs ((x3 + 1)).toNatClampNeg) (xs ((x3 + 2)).toNatClampNeg) h (fun r148 h149 => vp_in (x3 + 1) L ∧ vp_in (x3 + 2) L ∧ M_chance (xs ((x3 + 1)).toNatClampNeg) (xs ((x3 + 2)).toNatClampNeg) h149 (fun r150 h151 => (r148 = r150 → J1566 h151) ∧ (¬ r148 = r150 → False)))) ∧ (v1 = 37 → vp_in (x3 + 1) L ∧ vp_in (x3 + 2) L ∧ C_mean (xs ((x3 + 1)).toNatClampNeg) (xs ((x3 + 2)).toNatClampNeg) h (fun r152 h153 => vp_in (x3 + 1) L ∧ vp_in (x3 + 2) L ∧ M_mean (xs ((x3 + 1)).toNatClampNeg) (xs ((x3 + 2)).toNatClampNeg) h153 (fun r154 h155 => (r152 = r154 → J1566 h155) ∧ (¬ r152 = r154 → False)))) ∧ (v1 = 38 → vp_in (x3 + 1) L ∧ vp_in (x3 + 2) L ∧ vp_in (x3 + 3) L ∧ C_numbers (xs ((x3 + 1)).toNatClampNeg) (xs ((x3 + 2)).toNatClampNeg) (xs ((x3 + 3)).toNatClampNeg) h (fun r156 h157 => vp_in (x3 + 1) L ∧ vp_in (x3 + 2) L ∧ vp_in (x3 + 3) L ∧ M_numbers (xs ((x3 + 1)).toNatClampNeg) (xs ((x3 + 2)).toNatClampNeg) (xs ((x3 + 3)).toNatClampNeg) h157 (fun r158 h159 => (r156 = r158 → J1566 h159) ∧ (¬ r156 = r158 → False)))) ∧ (v1 = 39 → vp_in (x3 + 1) L ∧ vp_in (x3 + 2) L ∧ vp_in (x3 + 3) L ∧ vp_in (x3 + 4) L ∧ C_write (xs ((x3 + 1)).toNatClampNeg) (xs ((x3 + 2)).toNatClampNeg) (((((xs ((x3 + 3)).toNatClampNeg)).toInt64) <<< (((32 : Int32)).toInt64 &&& 63)) ||| ((((xs ((x3 + 4)).toNatClampNeg)).toInt64) &&& (4294967295 : Int64))) h (fun r160 h161 => vp_in (x3 + 1) L ∧ vp_in (x3 + 2) L ∧ vp_in (x3 + 3) L ∧ vp_in (x3 + 4) L ∧ M_write (xs ((x3 + 1)).toNatClampNeg) (xs ((x3 + 2)).toNatClampNeg) (((((xs ((x3 + 3)).toNatClampNeg)).toInt64) <<< (((32 : Int32)).toInt64 &&& 63)) ||| ((((xs ((x3 + 4)).toNatClampNeg)).toInt64) &&& (4294967295 : Int64))) h161 (fun r162 h163 => (r160 = r162 → J1566 h163) ∧ (¬ r160 = r162 → False)))) ∧ (v1 = 40 → vp_in (x3 + 1) L ∧ C_lists (xs ((x3 + 1)).toNatClampNeg) h (fun r164 h165 => vp_in (x3 + 1) L ∧ M_lists (xs ((x3 + 1)).toNatClampNeg) h165 (fun r166 h167 => (r164 = r166 → J1566 h167) ∧ (¬ r164 = r166 → False)))) ∧ (v1 = 41 → vp_in (x3 + 1) L ∧ C_image (xs ((x3 + 1)).toNatClampNeg) h (fun r168 h169 => vp_in (x3 + 1) L ∧ M_image (xs ((x3 + 1)).toNatClampNeg) h169 (fun r170 h171 => (r168 = r170 → J1566 h171) ∧ (¬ r168 = r170 → False)))) ∧ (v1 = 42 → vp_in (x3 + 1) L ∧ C_restore (xs ((x3 + 1)).toNatClampNeg) h (fun r172 h173 => vp_in (x3 + 1) L ∧ M_restore (xs ((x3 + 1)).toNatClampNeg) h173 (fun r174 h175 => (r172 = r174 → J1566 h175) ∧ (¬ r172 = r174 → False)))) ∧ (v1 = 43 → vp_in (x3 + 1) L ∧ C_count (xs ((x3 + 1)).toNatClampNeg) h (fun r176 h177 => vp_in (x3 + 1) L ∧ M_count (xs ((x3 + 1)).toNatClampNeg) h177 (fun r178 h179 => (r176 = r178 → J1566 h179) ∧ (¬ r176 = r178 → False)))))
set_option maxHeartbeats 4000000 in
set_option maxRecDepth 20000 in
theorem gl_Law_L18 {G : Gx} {cs sl b L : Nat} {xs : Nat → Int32} : ∀ (n : Nat) (x3 : Int32) (h : Hp), Law_L18 L xs n x3 h → GoL G cs sl b L xs 18 [(0, .ref b), (1, .ref (gAd G 0)), (2, .ref (gAd G 98)), (3, .int x3)] [] h := by
  intro n
  induction n with
  | zero => intro _ h hw; exact False.elim hw
  | succ n ih =>
    intro x3 h hw
    refine l_iload_n dL_law_18 rfl rfl ?_
    refine l_aload_n dL_law_19 rfl rfl ?_
    refine l_slen dL_law_20 ?_
    refine l_bipush (v := 6) dL_law_21 (by decide) ?_
    refine l_isub dL_law_23 ?_
    refine l_icmp_gt 1572 dL_law_24 rfl (fun hc => ?_) (fun hc => ?_)
    · have hw := hw.1 hc
      refine l_iconst (v := 1) dL_law_1572 (by decide) ?_
      exact l_ret dL_law_1573
    · have hw := hw.2 hc
      refine l_aload_n dL_law_27 rfl rfl ?_
      refine l_iload_n dL_law_28 rfl rfl ?_
      refine l_sld dL_law_29 hw.1 ?_
      have hw := hw.2
      refine l_bipush (v := 63) dL_law_30 (by decide) ?_
      refine l_iand dL_law_32 ?_
      refine l_topi (fun v1 ev1 => ?_)
      have hw := hw v1 ev1
      refine jn_el hw (fun J1566 eJ1566 hw => ?_)
      have hJ1566 : ∀ (h2 : Hp), J1566 h2 → GoL G cs sl b L xs 1566 [(0, .ref b), (1, .ref (gAd G 0)), (2, .ref (gAd G 98)), (3, .int x3)] [] h2 := by
        intro h2 hw
        subst eJ1566
        obtain ⟨v3, ev3⟩ : ∃ y : Int32, y = (x3 + 6) := ⟨_, rfl⟩
        have hw := hw v3 ev3
        refine l_iinc dL_law_1566 rfl (by rw [ev3]; rfl) (by decide) (lv1 := [(0, .ref b), (1, .ref (gAd G 0)), (2, .ref (gAd G 98)), (3, .int v3)]) rfl ?_
        refine l_goto 18 dL_law_1569 rfl ?_
        exact ih _ _ hw
      rcases tsw_in v1 (0) (43) 44 (by decide) with hc | ⟨j, hj, hc⟩
      · have hw := hw.1 hc
        refine l_tswD 1566 dL_law_33 hc rfl ?_
        exact hJ1566 _ hw
      · match j, hj, hc with
        | 0, _, hc =>
          have hc : v1 = 0 := tsw_eq hc (by decide)
          have hw := hw.2.1 hc
          refine l_tswI 0 224 dL_law_33 hc (by decide) (by decide) (off := 191) (by decide) rfl ?_
          refine l_aload_n dL_law_224 rfl rfl ?_
          refine l_aload_n dL_law_225 rfl rfl ?_
          refine l_iload_n dL_law_226 rfl rfl ?_
          refine l_iconst (v := 1) dL_law_227 (by decide) ?_
          refine l_iadd dL_law_228 ?_
          refine l_sld dL_law_229 hw.1 ?_
          have hw := hw.2
          refine l_aload_n dL_law_230 rfl rfl ?_
          refine l_iload_n dL_law_231 rfl rfl ?_
          refine l_iconst (v := 2) dL_law_232 (by decide) ?_
          refine l_iadd dL_law_233 ?_
          refine l_sld dL_law_234 hw.1 ?_
          have hw := hw.2
          refine l_aload_n dL_law_235 rfl rfl ?_
          refine l_iload_n dL_law_236 rfl rfl ?_
          refine l_iconst (v := 3) dL_law_237 (by decide) ?_
          refine l_iadd dL_law_238 ?_
          refine l_sld dL_law_239 hw.1 ?_
          have hw := hw.2
          refine l_aload_n dL_law_240 rfl rfl ?_
          refine l_iload_n dL_law_241 rfl rfl ?_
          refine l_iconst (v := 4) dL_law_242 (by decide) ?_
          refine l_iadd dL_law_243 ?_
          refine l_sld dL_law_244 hw.1 ?_
          have hw := hw.2
          refine l_aload_n dL_law_245 rfl rfl ?_
          refine l_iload_n dL_law_246 rfl rfl ?_
          refine l_iconst (v := 5) dL_law_247 (by decide) ?_
          refine l_iadd dL_law_248 ?_
          refine l_sld dL_law_249 hw.1 ?_
          have hw := hw.2
          refine l_callVI [.int (xs ((x3 + 1)).toNatClampNeg), .int (xs ((x3 + 2)).toNatClampNeg), .int (xs ((x3 + 3)).toNatClampNeg), .int (xs ((x3 + 4)).toNatClampNeg), .int (xs ((x3 + 5)).toNatClampNeg)] (ci := 11) dL_law_250 ml_L_13 mk_X11_feed rfl rfl sh0 (Nat.le_of_ble_eq_true rfl) (Nat.le_of_ble_eq_true rfl) rfl (c_C_feed hw) (fun r4 h5 hw => ?_)
          refine l_aload_n dL_law_253 rfl rfl ?_
          refine l_aload_n dL_law_254 rfl rfl ?_
          refine l_iload_n dL_law_255 rfl rfl ?_
          refine l_iconst (v := 1) dL_law_256 (by decide) ?_
          refine l_iadd dL_law_257 ?_
          refine l_sld dL_law_258 hw.1 ?_
          have hw := hw.2
          refine l_aload_n dL_law_259 rfl rfl ?_
          refine l_iload_n dL_law_260 rfl rfl ?_
          refine l_iconst (v := 2) dL_law_261 (by decide) ?_
          refine l_iadd dL_law_262 ?_
          refine l_sld dL_law_263 hw.1 ?_
          have hw := hw.2
          refine l_aload_n dL_law_264 rfl rfl ?_
          refine l_iload_n dL_law_265 rfl rfl ?_
          refine l_iconst (v := 3) dL_law_266 (by decide) ?_
          refine l_iadd dL_law_267 ?_
          refine l_sld dL_law_268 hw.1 ?_
          have hw := hw.2
          refine l_aload_n dL_law_269 rfl rfl ?_
          refine l_iload_n dL_law_270 rfl rfl ?_
          refine l_iconst (v := 4) dL_law_271 (by decide) ?_
          refine l_iadd dL_law_272 ?_
          refine l_sld dL_law_273 hw.1 ?_
          have hw := hw.2
          refine l_aload_n dL_law_274 rfl rfl ?_
          refine l_iload_n dL_law_275 rfl rfl ?_
          refine l_iconst (v := 5) dL_law_276 (by decide) ?_
          refine l_iadd dL_law_277 ?_
          refine l_sld dL_law_278 hw.1 ?_
          have hw := hw.2
          refine l_callVI [.int (xs ((x3 + 1)).toNatClampNeg), .int (xs ((x3 + 2)).toNatClampNeg), .int (xs ((x3 + 3)).toNatClampNeg), .int (xs ((x3 + 4)).toNatClampNeg), .int (xs ((x3 + 5)).toNatClampNeg)] (ci := 12) dL_law_279 ml_L_17 mk_X12_feed rfl rfl sh98 (Nat.le_of_ble_eq_true rfl) (Nat.le_of_ble_eq_true rfl) rfl (c_M_feed hw) (fun r6 h7 hw => ?_)
          refine l_icmp_eq 1566 dL_law_282 rfl (fun hc => ?_) (fun hc => ?_)
          · have hw := hw.1 hc
            exact hJ1566 _ hw
          · have hw := hw.2 hc
            refine l_iconst (v := 0) dL_law_285 (by decide) ?_
            exact False.elim hw
        | 1, _, hc =>
          have hc : v1 = 1 := tsw_eq hc (by decide)
          have hw := hw.2.2.1 hc
          refine l_tswI 1 287 dL_law_33 hc (by decide) (by decide) (off := 254) (by decide) rfl ?_
          refine l_aload_n dL_law_287 rfl rfl ?_
          refine l_aload_n dL_law_288 rfl rfl ?_
          refine l_iload_n dL_law_289 rfl rfl ?_
          refine l_iconst (v := 1) dL_law_290 (by decide) ?_
          refine l_iadd dL_law_291 ?_
          refine l_sld dL_law_292 hw.1 ?_
          have hw := hw.2
          refine l_callVI [.int (xs ((x3 + 1)).toNatClampNeg)] (ci := 11) dL_law_293 ml_L_18 mk_X11_land rfl rfl sh0 (Nat.le_of_ble_eq_true rfl) (Nat.le_of_ble_eq_true rfl) rfl (c_C_land hw) (fun r8 h9 hw => ?_)
          refine l_aload_n dL_law_296 rfl rfl ?_
          refine l_aload_n dL_law_297 rfl rfl ?_
          refine l_iload_n dL_law_298 rfl rfl ?_
          refine l_iconst (v := 1) dL_law_299 (by decide) ?_
          refine l_iadd dL_law_300 ?_
          refine l_sld dL_law_301 hw.1 ?_
          have hw := hw.2
          refine l_callVI [.int (xs ((x3 + 1)).toNatClampNeg)] (ci := 12) dL_law_302 ml_L_22 mk_X12_land rfl rfl sh98 (Nat.le_of_ble_eq_true rfl) (Nat.le_of_ble_eq_true rfl) rfl (c_M_land hw) (fun r10 h11 hw => ?_)
          refine l_icmp_eq 1566 dL_law_305 rfl (fun hc => ?_) (fun hc => ?_)
          · have hw := hw.1 hc
            exact hJ1566 _ hw
          · have hw := hw.2 hc
            refine l_iconst (v := 0) dL_law_308 (by decide) ?_
            exact False.elim hw
        | 2, _, hc =>
          have hc : v1 = 2 := tsw_eq hc (by decide)
          have hw := hw.2.2.2.1 hc
          refine l_tswI 2 310 dL_law_33 hc (by decide) (by decide) (off := 277) (by decide) rfl ?_
          refine l_aload_n dL_law_310 rfl rfl ?_
          refine l_aload_n dL_law_311 rfl rfl ?_
          refine l_iload_n dL_law_312 rfl rfl ?_
          refine l_iconst (v := 1) dL_law_313 (by decide) ?_
          refine l_iadd dL_law_314 ?_
          refine l_sld dL_law_315 hw.1 ?_
          have hw := hw.2
          refine l_callVI [.int (xs ((x3 + 1)).toNatClampNeg)] (ci := 11) dL_law_316 ml_L_23 mk_X11_fault rfl rfl sh0 (Nat.le_of_ble_eq_true rfl) (Nat.le_of_ble_eq_true rfl) rfl (c_C_fault hw) (fun r12 h13 hw => ?_)
          refine l_aload_n dL_law_319 rfl rfl ?_
          refine l_aload_n dL_law_320 rfl rfl ?_
          refine l_iload_n dL_law_321 rfl rfl ?_
          refine l_iconst (v := 1) dL_law_322 (by decide) ?_
          refine l_iadd dL_law_323 ?_
          refine l_sld dL_law_324 hw.1 ?_
          have hw := hw.2
          refine l_callVI [.int (xs ((x3 + 1)).toNatClampNeg)] (ci := 12) dL_law_325 ml_L_26 mk_X12_fault rfl rfl sh98 (Nat.le_of_ble_eq_true rfl) (Nat.le_of_ble_eq_true rfl) rfl (c_M_fault hw) (fun r14 h15 hw => ?_)
          refine l_icmp_eq 1566 dL_law_328 rfl (fun hc => ?_) (fun hc => ?_)
          · have hw := hw.1 hc
            exact hJ1566 _ hw
          · have hw := hw.2 hc
            refine l_iconst (v := 0) dL_law_331 (by decide) ?_
            exact False.elim hw
        | 3, _, hc =>
          have hc : v1 = 3 := tsw_eq hc (by decide)
          have hw := hw.2.2.2.2.1 hc
          refine l_tswI 3 333 dL_law_33 hc (by decide) (by decide) (off := 300) (by decide) rfl ?_
          refine l_aload_n dL_law_333 rfl rfl ?_
          refine l_aload_n dL_law_334 rfl rfl ?_
          refine l_iload_n dL_law_335 rfl rfl ?_
          refine l_iconst (v := 1) dL_law_336 (by decide) ?_
          refine l_iadd dL_law_337 ?_
          refine l_sld dL_law_338 hw.1 ?_
          have hw := hw.2
          refine l_aload_n dL_law_339 rfl rfl ?_
          refine l_iload_n dL_law_340 rfl rfl ?_
          refine l_iconst (v := 2) dL_law_341 (by decide) ?_
          refine l_iadd dL_law_342 ?_
          refine l_sld dL_law_343 hw.1 ?_
          have hw := hw.2
          refine l_callVI [.int (xs ((x3 + 1)).toNatClampNeg), .int (xs ((x3 + 2)).toNatClampNeg)] (ci := 11) dL_law_344 ml_L_27 mk_X11_place rfl rfl sh0 (Nat.le_of_ble_eq_true rfl) (Nat.le_of_ble_eq_true rfl) rfl (c_C_place hw) (fun r16 h17 hw => ?_)
          refine l_aload_n dL_law_347 rfl rfl ?_
          refine l_aload_n dL_law_348 rfl rfl ?_
          refine l_iload_n dL_law_349 rfl rfl ?_
          refine l_iconst (v := 1) dL_law_350 (by decide) ?_
          refine l_iadd dL_law_351 ?_
          refine l_sld dL_law_352 hw.1 ?_
          have hw := hw.2
          refine l_aload_n dL_law_353 rfl rfl ?_
          refine l_iload_n dL_law_354 rfl rfl ?_
          refine l_iconst (v := 2) dL_law_355 (by decide) ?_
          refine l_iadd dL_law_356 ?_
          refine l_sld dL_law_357 hw.1 ?_
          have hw := hw.2
          refine l_callVI [.int (xs ((x3 + 1)).toNatClampNeg), .int (xs ((x3 + 2)).toNatClampNeg)] (ci := 12) dL_law_358 ml_L_31 mk_X12_place rfl rfl sh98 (Nat.le_of_ble_eq_true rfl) (Nat.le_of_ble_eq_true rfl) rfl (c_M_place hw) (fun r18 h19 hw => ?_)
          refine l_icmp_eq 1566 dL_law_361 rfl (fun hc => ?_) (fun hc => ?_)
          · have hw := hw.1 hc
            exact hJ1566 _ hw
          · have hw := hw.2 hc
            refine l_iconst (v := 0) dL_law_364 (by decide) ?_
            exact False.elim hw
        | 4, _, hc =>
          have hc : v1 = 4 := tsw_eq hc (by decide)
          have hw := hw.2.2.2.2.2.1 hc
          refine l_tswI 4 366 dL_law_33 hc (by decide) (by decide) (off := 333) (by decide) rfl ?_
          refine l_aload_n dL_law_366 rfl rfl ?_
          refine l_aload_n dL_law_367 rfl rfl ?_
          refine l_iload_n dL_law_368 rfl rfl ?_
          refine l_iconst (v := 1) dL_law_369 (by decide) ?_
          refine l_iadd dL_law_370 ?_
          refine l_sld dL_law_371 hw.1 ?_
          have hw := hw.2
          refine l_aload_n dL_law_372 rfl rfl ?_
          refine l_iload_n dL_law_373 rfl rfl ?_
          refine l_iconst (v := 2) dL_law_374 (by decide) ?_
          refine l_iadd dL_law_375 ?_
          refine l_sld dL_law_376 hw.1 ?_
          have hw := hw.2
          refine l_callVI [.int (xs ((x3 + 1)).toNatClampNeg), .int (xs ((x3 + 2)).toNatClampNeg)] (ci := 11) dL_law_377 ml_L_32 mk_X11_road rfl rfl sh0 (Nat.le_of_ble_eq_true rfl) (Nat.le_of_ble_eq_true rfl) rfl (c_C_road hw) (fun r20 h21 hw => ?_)
          refine l_aload_n dL_law_380 rfl rfl ?_
          refine l_aload_n dL_law_381 rfl rfl ?_
          refine l_iload_n dL_law_382 rfl rfl ?_
          refine l_iconst (v := 1) dL_law_383 (by decide) ?_
          refine l_iadd dL_law_384 ?_
          refine l_sld dL_law_385 hw.1 ?_
          have hw := hw.2
          refine l_aload_n dL_law_386 rfl rfl ?_
          refine l_iload_n dL_law_387 rfl rfl ?_
          refine l_iconst (v := 2) dL_law_388 (by decide) ?_
          refine l_iadd dL_law_389 ?_
          refine l_sld dL_law_390 hw.1 ?_
          have hw := hw.2
          refine l_callVI [.int (xs ((x3 + 1)).toNatClampNeg), .int (xs ((x3 + 2)).toNatClampNeg)] (ci := 12) dL_law_391 ml_L_35 mk_X12_road rfl rfl sh98 (Nat.le_of_ble_eq_true rfl) (Nat.le_of_ble_eq_true rfl) rfl (c_M_road hw) (fun r22 h23 hw => ?_)
          refine l_icmp_eq 1566 dL_law_394 rfl (fun hc => ?_) (fun hc => ?_)
          · have hw := hw.1 hc
            exact hJ1566 _ hw
          · have hw := hw.2 hc
            refine l_iconst (v := 0) dL_law_397 (by decide) ?_
            exact False.elim hw
        | 5, _, hc =>
          have hc : v1 = 5 := tsw_eq hc (by decide)
          have hw := hw.2.2.2.2.2.2.1 hc
          refine l_tswI 5 399 dL_law_33 hc (by decide) (by decide) (off := 366) (by decide) rfl ?_
          refine l_aload_n dL_law_399 rfl rfl ?_
          refine l_aload_n dL_law_400 rfl rfl ?_
          refine l_iload_n dL_law_401 rfl rfl ?_
          refine l_iconst (v := 1) dL_law_402 (by decide) ?_
          refine l_iadd dL_law_403 ?_
          refine l_sld dL_law_404 hw.1 ?_
          have hw := hw.2
          refine l_callVJ [.int (xs ((x3 + 1)).toNatClampNeg)] (ci := 11) dL_law_405 ml_L_36 mk_X11_pay rfl rfl sh0 (Nat.le_of_ble_eq_true rfl) (Nat.le_of_ble_eq_true rfl) rfl (c_C_pay hw) (fun r24 h25 hw => ?_)
          refine l_aload_n dL_law_408 rfl rfl ?_
          refine l_aload_n dL_law_409 rfl rfl ?_
          refine l_iload_n dL_law_410 rfl rfl ?_
          refine l_iconst (v := 1) dL_law_411 (by decide) ?_
          refine l_iadd dL_law_412 ?_
          refine l_sld dL_law_413 hw.1 ?_
          have hw := hw.2
          refine l_callVJ [.int (xs ((x3 + 1)).toNatClampNeg)] (ci := 12) dL_law_414 ml_L_40 mk_X12_pay rfl rfl sh98 (Nat.le_of_ble_eq_true rfl) (Nat.le_of_ble_eq_true rfl) rfl (c_M_pay hw) (fun r26 h27 hw => ?_)
          refine l_lc_eq 1566 dL_law_417 dL_law_418 rfl (fun hc => ?_) (fun hc => ?_)
          · have hw := hw.1 hc
            exact hJ1566 _ hw
          · have hw := hw.2 hc
            refine l_iconst (v := 0) dL_law_421 (by decide) ?_
            exact False.elim hw
        | 6, _, hc =>
          have hc : v1 = 6 := tsw_eq hc (by decide)
          have hw := hw.2.2.2.2.2.2.2.1 hc
          refine l_tswI 6 423 dL_law_33 hc (by decide) (by decide) (off := 390) (by decide) rfl ?_
          refine l_aload_n dL_law_423 rfl rfl ?_
          refine l_aload_n dL_law_424 rfl rfl ?_
          refine l_iload_n dL_law_425 rfl rfl ?_
          refine l_iconst (v := 1) dL_law_426 (by decide) ?_
          refine l_iadd dL_law_427 ?_
          refine l_sld dL_law_428 hw.1 ?_
          have hw := hw.2
          refine l_callVJ [.int (xs ((x3 + 1)).toNatClampNeg)] (ci := 11) dL_law_429 ml_L_41 mk_X11_move rfl rfl sh0 (Nat.le_of_ble_eq_true rfl) (Nat.le_of_ble_eq_true rfl) rfl (c_C_move hw) (fun r28 h29 hw => ?_)
          refine l_aload_n dL_law_432 rfl rfl ?_
          refine l_aload_n dL_law_433 rfl rfl ?_
          refine l_iload_n dL_law_434 rfl rfl ?_
          refine l_iconst (v := 1) dL_law_435 (by decide) ?_
          refine l_iadd dL_law_436 ?_
          refine l_sld dL_law_437 hw.1 ?_
          have hw := hw.2
          refine l_callVJ [.int (xs ((x3 + 1)).toNatClampNeg)] (ci := 12) dL_law_438 ml_L_44 mk_X12_move rfl rfl sh98 (Nat.le_of_ble_eq_true rfl) (Nat.le_of_ble_eq_true rfl) rfl (c_M_move hw) (fun r30 h31 hw => ?_)
          refine l_lc_eq 1566 dL_law_441 dL_law_442 rfl (fun hc => ?_) (fun hc => ?_)
          · have hw := hw.1 hc
            exact hJ1566 _ hw
          · have hw := hw.2 hc
            refine l_iconst (v := 0) dL_law_445 (by decide) ?_
            exact False.elim hw
        | 7, _, hc =>
          have hc : v1 = 7 := tsw_eq hc (by decide)
          have hw := hw.2.2.2.2.2.2.2.2.1 hc
          refine l_tswI 7 447 dL_law_33 hc (by decide) (by decide) (off := 414) (by decide) rfl ?_
          refine l_aload_n dL_law_447 rfl rfl ?_
          refine l_aload_n dL_law_448 rfl rfl ?_
          refine l_iload_n dL_law_449 rfl rfl ?_
          refine l_iconst (v := 1) dL_law_450 (by decide) ?_
          refine l_iadd dL_law_451 ?_
          refine l_sld dL_law_452 hw.1 ?_
          have hw := hw.2
          refine l_callVJ [.int (xs ((x3 + 1)).toNatClampNeg)] (ci := 11) dL_law_453 ml_L_45 mk_X11_moves rfl rfl sh0 (Nat.le_of_ble_eq_true rfl) (Nat.le_of_ble_eq_true rfl) rfl (c_C_moves hw) (fun r32 h33 hw => ?_)
          refine l_aload_n dL_law_456 rfl rfl ?_
          refine l_aload_n dL_law_457 rfl rfl ?_
          refine l_iload_n dL_law_458 rfl rfl ?_
          refine l_iconst (v := 1) dL_law_459 (by decide) ?_
          refine l_iadd dL_law_460 ?_
          refine l_sld dL_law_461 hw.1 ?_
          have hw := hw.2
          refine l_callVJ [.int (xs ((x3 + 1)).toNatClampNeg)] (ci := 12) dL_law_462 ml_L_48 mk_X12_moves rfl rfl sh98 (Nat.le_of_ble_eq_true rfl) (Nat.le_of_ble_eq_true rfl) rfl (c_M_moves hw) (fun r34 h35 hw => ?_)
          refine l_lc_eq 1566 dL_law_465 dL_law_466 rfl (fun hc => ?_) (fun hc => ?_)
          · have hw := hw.1 hc
            exact hJ1566 _ hw
          · have hw := hw.2 hc
            refine l_iconst (v := 0) dL_law_469 (by decide) ?_
            exact False.elim hw
        | 8, _, hc =>
          have hc : v1 = 8 := tsw_eq hc (by decide)
          have hw := hw.2.2.2.2.2.2.2.2.2.1 hc
          refine l_tswI 8 471 dL_law_33 hc (by decide) (by decide) (off := 438) (by decide) rfl ?_
          refine l_aload_n dL_law_471 rfl rfl ?_
          refine l_aload_n dL_law_472 rfl rfl ?_
          refine l_iload_n dL_law_473 rfl rfl ?_
          refine l_iconst (v := 1) dL_law_474 (by decide) ?_
          refine l_iadd dL_law_475 ?_
          refine l_sld dL_law_476 hw.1 ?_
          have hw := hw.2
          refine l_aload_n dL_law_477 rfl rfl ?_
          refine l_iload_n dL_law_478 rfl rfl ?_
          refine l_iconst (v := 2) dL_law_479 (by decide) ?_
          refine l_iadd dL_law_480 ?_
          refine l_sld dL_law_481 hw.1 ?_
          have hw := hw.2
          refine l_callVI [.int (xs ((x3 + 1)).toNatClampNeg), .int (xs ((x3 + 2)).toNatClampNeg)] (ci := 11) dL_law_482 ml_L_49 mk_X11_plan rfl rfl sh0 (Nat.le_of_ble_eq_true rfl) (Nat.le_of_ble_eq_true rfl) rfl (c_C_plan hw) (fun r36 h37 hw => ?_)
          refine l_aload_n dL_law_485 rfl rfl ?_
          refine l_aload_n dL_law_486 rfl rfl ?_
          refine l_iload_n dL_law_487 rfl rfl ?_
          refine l_iconst (v := 1) dL_law_488 (by decide) ?_
          refine l_iadd dL_law_489 ?_
          refine l_sld dL_law_490 hw.1 ?_
          have hw := hw.2
          refine l_aload_n dL_law_491 rfl rfl ?_
          refine l_iload_n dL_law_492 rfl rfl ?_
          refine l_iconst (v := 2) dL_law_493 (by decide) ?_
          refine l_iadd dL_law_494 ?_
          refine l_sld dL_law_495 hw.1 ?_
          have hw := hw.2
          refine l_callVI [.int (xs ((x3 + 1)).toNatClampNeg), .int (xs ((x3 + 2)).toNatClampNeg)] (ci := 12) dL_law_496 ml_L_52 mk_X12_plan rfl rfl sh98 (Nat.le_of_ble_eq_true rfl) (Nat.le_of_ble_eq_true rfl) rfl (c_M_plan hw) (fun r38 h39 hw => ?_)
          refine l_icmp_eq 1566 dL_law_499 rfl (fun hc => ?_) (fun hc => ?_)
          · have hw := hw.1 hc
            exact hJ1566 _ hw
          · have hw := hw.2 hc
            refine l_iconst (v := 0) dL_law_502 (by decide) ?_
            exact False.elim hw
        | 9, _, hc =>
          have hc : v1 = 9 := tsw_eq hc (by decide)
          have hw := hw.2.2.2.2.2.2.2.2.2.2.1 hc
          refine l_tswI 9 504 dL_law_33 hc (by decide) (by decide) (off := 471) (by decide) rfl ?_
          refine l_aload_n dL_law_504 rfl rfl ?_
          refine l_aload_n dL_law_505 rfl rfl ?_
          refine l_iload_n dL_law_506 rfl rfl ?_
          refine l_iconst (v := 1) dL_law_507 (by decide) ?_
          refine l_iadd dL_law_508 ?_
          refine l_sld dL_law_509 hw.1 ?_
          have hw := hw.2
          refine l_callVI [.int (xs ((x3 + 1)).toNatClampNeg)] (ci := 11) dL_law_510 ml_L_53 mk_X11_plays rfl rfl sh0 (Nat.le_of_ble_eq_true rfl) (Nat.le_of_ble_eq_true rfl) rfl (c_C_plays hw) (fun r40 h41 hw => ?_)
          refine l_aload_n dL_law_513 rfl rfl ?_
          refine l_aload_n dL_law_514 rfl rfl ?_
          refine l_iload_n dL_law_515 rfl rfl ?_
          refine l_iconst (v := 1) dL_law_516 (by decide) ?_
          refine l_iadd dL_law_517 ?_
          refine l_sld dL_law_518 hw.1 ?_
          have hw := hw.2
          refine l_callVI [.int (xs ((x3 + 1)).toNatClampNeg)] (ci := 12) dL_law_519 ml_L_56 mk_X12_plays rfl rfl sh98 (Nat.le_of_ble_eq_true rfl) (Nat.le_of_ble_eq_true rfl) rfl (c_M_plays hw) (fun r42 h43 hw => ?_)
          refine l_icmp_eq 1566 dL_law_522 rfl (fun hc => ?_) (fun hc => ?_)
          · have hw := hw.1 hc
            exact hJ1566 _ hw
          · have hw := hw.2 hc
            refine l_iconst (v := 0) dL_law_525 (by decide) ?_
            exact False.elim hw
        | 10, _, hc =>
          have hc : v1 = 10 := tsw_eq hc (by decide)
          have hw := hw.2.2.2.2.2.2.2.2.2.2.2.1 hc
          refine l_tswI 10 527 dL_law_33 hc (by decide) (by decide) (off := 494) (by decide) rfl ?_
          refine l_aload_n dL_law_527 rfl rfl ?_
          refine l_aload_n dL_law_528 rfl rfl ?_
          refine l_iload_n dL_law_529 rfl rfl ?_
          refine l_iconst (v := 1) dL_law_530 (by decide) ?_
          refine l_iadd dL_law_531 ?_
          refine l_sld dL_law_532 hw.1 ?_
          have hw := hw.2
          refine l_callVI [.int (xs ((x3 + 1)).toNatClampNeg)] (ci := 11) dL_law_533 ml_L_57 mk_X11_weather rfl rfl sh0 (Nat.le_of_ble_eq_true rfl) (Nat.le_of_ble_eq_true rfl) rfl (c_C_weather hw) (fun r44 h45 hw => ?_)
          refine l_aload_n dL_law_536 rfl rfl ?_
          refine l_aload_n dL_law_537 rfl rfl ?_
          refine l_iload_n dL_law_538 rfl rfl ?_
          refine l_iconst (v := 1) dL_law_539 (by decide) ?_
          refine l_iadd dL_law_540 ?_
          refine l_sld dL_law_541 hw.1 ?_
          have hw := hw.2
          refine l_callVI [.int (xs ((x3 + 1)).toNatClampNeg)] (ci := 12) dL_law_542 ml_L_60 mk_X12_weather rfl rfl sh98 (Nat.le_of_ble_eq_true rfl) (Nat.le_of_ble_eq_true rfl) rfl (c_M_weather hw) (fun r46 h47 hw => ?_)
          refine l_icmp_eq 1566 dL_law_545 rfl (fun hc => ?_) (fun hc => ?_)
          · have hw := hw.1 hc
            exact hJ1566 _ hw
          · have hw := hw.2 hc
            refine l_iconst (v := 0) dL_law_548 (by decide) ?_
            exact False.elim hw
        | 11, _, hc =>
          have hc : v1 = 11 := tsw_eq hc (by decide)
          have hw := hw.2.2.2.2.2.2.2.2.2.2.2.2.1 hc
          refine l_tswI 11 550 dL_law_33 hc (by decide) (by decide) (off := 517) (by decide) rfl ?_
          refine l_aload_n dL_law_550 rfl rfl ?_
          refine l_aload_n dL_law_551 rfl rfl ?_
          refine l_iload_n dL_law_552 rfl rfl ?_
          refine l_iconst (v := 1) dL_law_553 (by decide) ?_
          refine l_iadd dL_law_554 ?_
          refine l_sld dL_law_555 hw.1 ?_
          have hw := hw.2
          refine l_callVI [.int (xs ((x3 + 1)).toNatClampNeg)] (ci := 11) dL_law_556 ml_L_61 mk_X11_undo rfl rfl sh0 (Nat.le_of_ble_eq_true rfl) (Nat.le_of_ble_eq_true rfl) rfl (c_C_undo hw) (fun r48 h49 hw => ?_)
          refine l_aload_n dL_law_559 rfl rfl ?_
          refine l_aload_n dL_law_560 rfl rfl ?_
          refine l_iload_n dL_law_561 rfl rfl ?_
          refine l_iconst (v := 1) dL_law_562 (by decide) ?_
          refine l_iadd dL_law_563 ?_
          refine l_sld dL_law_564 hw.1 ?_
          have hw := hw.2
          refine l_callVI [.int (xs ((x3 + 1)).toNatClampNeg)] (ci := 12) dL_law_565 ml_L_64 mk_X12_undo rfl rfl sh98 (Nat.le_of_ble_eq_true rfl) (Nat.le_of_ble_eq_true rfl) rfl (c_M_undo hw) (fun r50 h51 hw => ?_)
          refine l_icmp_eq 1566 dL_law_568 rfl (fun hc => ?_) (fun hc => ?_)
          · have hw := hw.1 hc
            exact hJ1566 _ hw
          · have hw := hw.2 hc
            refine l_iconst (v := 0) dL_law_571 (by decide) ?_
            exact False.elim hw
        | 12, _, hc =>
          have hc : v1 = 12 := tsw_eq hc (by decide)
          have hw := hw.2.2.2.2.2.2.2.2.2.2.2.2.2.1 hc
          refine l_tswI 12 573 dL_law_33 hc (by decide) (by decide) (off := 540) (by decide) rfl ?_
          refine l_aload_n dL_law_573 rfl rfl ?_
          refine l_aload_n dL_law_574 rfl rfl ?_
          refine l_iload_n dL_law_575 rfl rfl ?_
          refine l_iconst (v := 1) dL_law_576 (by decide) ?_
          refine l_iadd dL_law_577 ?_
          refine l_sld dL_law_578 hw.1 ?_
          have hw := hw.2
          refine l_aload_n dL_law_579 rfl rfl ?_
          refine l_iload_n dL_law_580 rfl rfl ?_
          refine l_iconst (v := 2) dL_law_581 (by decide) ?_
          refine l_iadd dL_law_582 ?_
          refine l_sld dL_law_583 hw.1 ?_
          have hw := hw.2
          refine l_callVI [.int (xs ((x3 + 1)).toNatClampNeg), .int (xs ((x3 + 2)).toNatClampNeg)] (ci := 11) dL_law_584 ml_L_65 mk_X11_judge rfl rfl sh0 (Nat.le_of_ble_eq_true rfl) (Nat.le_of_ble_eq_true rfl) rfl (c_C_judge hw) (fun r52 h53 hw => ?_)
          refine l_aload_n dL_law_587 rfl rfl ?_
          refine l_aload_n dL_law_588 rfl rfl ?_
          refine l_iload_n dL_law_589 rfl rfl ?_
          refine l_iconst (v := 1) dL_law_590 (by decide) ?_
          refine l_iadd dL_law_591 ?_
          refine l_sld dL_law_592 hw.1 ?_
          have hw := hw.2
          refine l_aload_n dL_law_593 rfl rfl ?_
          refine l_iload_n dL_law_594 rfl rfl ?_
          refine l_iconst (v := 2) dL_law_595 (by decide) ?_
          refine l_iadd dL_law_596 ?_
          refine l_sld dL_law_597 hw.1 ?_
          have hw := hw.2
          refine l_callVI [.int (xs ((x3 + 1)).toNatClampNeg), .int (xs ((x3 + 2)).toNatClampNeg)] (ci := 12) dL_law_598 ml_L_68 mk_X12_judge rfl rfl sh98 (Nat.le_of_ble_eq_true rfl) (Nat.le_of_ble_eq_true rfl) rfl (c_M_judge hw) (fun r54 h55 hw => ?_)
          refine l_icmp_eq 1566 dL_law_601 rfl (fun hc => ?_) (fun hc => ?_)
          · have hw := hw.1 hc
            exact hJ1566 _ hw
          · have hw := hw.2 hc
            refine l_iconst (v := 0) dL_law_604 (by decide) ?_
            exact False.elim hw
        | 13, _, hc =>
          have hc : v1 = 13 := tsw_eq hc (by decide)
          have hw := hw.2.2.2.2.2.2.2.2.2.2.2.2.2.2.1 hc
          refine l_tswI 13 606 dL_law_33 hc (by decide) (by decide) (off := 573) (by decide) rfl ?_
          refine l_aload_n dL_law_606 rfl rfl ?_
          refine l_aload_n dL_law_607 rfl rfl ?_
          refine l_iload_n dL_law_608 rfl rfl ?_
          refine l_iconst (v := 1) dL_law_609 (by decide) ?_
          refine l_iadd dL_law_610 ?_
          refine l_sld dL_law_611 hw.1 ?_
          have hw := hw.2
          refine l_callVI [.int (xs ((x3 + 1)).toNatClampNeg)] (ci := 11) dL_law_612 ml_L_69 mk_X11_perform rfl rfl sh0 (Nat.le_of_ble_eq_true rfl) (Nat.le_of_ble_eq_true rfl) rfl (c_C_perform hw) (fun r56 h57 hw => ?_)
          refine l_aload_n dL_law_615 rfl rfl ?_
          refine l_aload_n dL_law_616 rfl rfl ?_
          refine l_iload_n dL_law_617 rfl rfl ?_
          refine l_iconst (v := 1) dL_law_618 (by decide) ?_
          refine l_iadd dL_law_619 ?_
          refine l_sld dL_law_620 hw.1 ?_
          have hw := hw.2
          refine l_callVI [.int (xs ((x3 + 1)).toNatClampNeg)] (ci := 12) dL_law_621 ml_L_72 mk_X12_perform rfl rfl sh98 (Nat.le_of_ble_eq_true rfl) (Nat.le_of_ble_eq_true rfl) rfl (c_M_perform hw) (fun r58 h59 hw => ?_)
          refine l_icmp_eq 1566 dL_law_624 rfl (fun hc => ?_) (fun hc => ?_)
          · have hw := hw.1 hc
            exact hJ1566 _ hw
          · have hw := hw.2 hc
            refine l_iconst (v := 0) dL_law_627 (by decide) ?_
            exact False.elim hw
        | 14, _, hc =>
          have hc : v1 = 14 := tsw_eq hc (by decide)
          have hw := hw.2.2.2.2.2.2.2.2.2.2.2.2.2.2.2.1 hc
          refine l_tswI 14 629 dL_law_33 hc (by decide) (by decide) (off := 596) (by decide) rfl ?_
          refine l_aload_n dL_law_629 rfl rfl ?_
          refine l_aload_n dL_law_630 rfl rfl ?_
          refine l_iload_n dL_law_631 rfl rfl ?_
          refine l_iconst (v := 1) dL_law_632 (by decide) ?_
          refine l_iadd dL_law_633 ?_
          refine l_sld dL_law_634 hw.1 ?_
          have hw := hw.2
          refine l_aload_n dL_law_635 rfl rfl ?_
          refine l_iload_n dL_law_636 rfl rfl ?_
          refine l_iconst (v := 2) dL_law_637 (by decide) ?_
          refine l_iadd dL_law_638 ?_
          refine l_sld dL_law_639 hw.1 ?_
          have hw := hw.2
          refine l_callVI [.int (xs ((x3 + 1)).toNatClampNeg), .int (xs ((x3 + 2)).toNatClampNeg)] (ci := 11) dL_law_640 ml_L_73 mk_X11_journey rfl rfl sh0 (Nat.le_of_ble_eq_true rfl) (Nat.le_of_ble_eq_true rfl) rfl (c_C_journey hw) (fun r60 h61 hw => ?_)
          refine l_aload_n dL_law_643 rfl rfl ?_
          refine l_aload_n dL_law_644 rfl rfl ?_
          refine l_iload_n dL_law_645 rfl rfl ?_
          refine l_iconst (v := 1) dL_law_646 (by decide) ?_
          refine l_iadd dL_law_647 ?_
          refine l_sld dL_law_648 hw.1 ?_
          have hw := hw.2
          refine l_aload_n dL_law_649 rfl rfl ?_
          refine l_iload_n dL_law_650 rfl rfl ?_
          refine l_iconst (v := 2) dL_law_651 (by decide) ?_
          refine l_iadd dL_law_652 ?_
          refine l_sld dL_law_653 hw.1 ?_
          have hw := hw.2
          refine l_callVI [.int (xs ((x3 + 1)).toNatClampNeg), .int (xs ((x3 + 2)).toNatClampNeg)] (ci := 12) dL_law_654 ml_L_76 mk_X12_journey rfl rfl sh98 (Nat.le_of_ble_eq_true rfl) (Nat.le_of_ble_eq_true rfl) rfl (c_M_journey hw) (fun r62 h63 hw => ?_)
          refine l_icmp_eq 1566 dL_law_657 rfl (fun hc => ?_) (fun hc => ?_)
          · have hw := hw.1 hc
            exact hJ1566 _ hw
          · have hw := hw.2 hc
            refine l_iconst (v := 0) dL_law_660 (by decide) ?_
            exact False.elim hw
        | 15, _, hc =>
          have hc : v1 = 15 := tsw_eq hc (by decide)
          have hw := hw.2.2.2.2.2.2.2.2.2.2.2.2.2.2.2.2.1 hc
          refine l_tswI 15 662 dL_law_33 hc (by decide) (by decide) (off := 629) (by decide) rfl ?_
          refine l_aload_n dL_law_662 rfl rfl ?_
          refine l_callVI [] (ci := 11) dL_law_663 ml_L_77 mk_X11_rings rfl rfl sh0 (Nat.le_of_ble_eq_true rfl) (Nat.le_of_ble_eq_true rfl) rfl (c_C_rings hw) (fun r64 h65 hw => ?_)
          refine l_aload_n dL_law_666 rfl rfl ?_
          refine l_callVI [] (ci := 12) dL_law_667 ml_L_81 mk_X12_rings rfl rfl sh98 (Nat.le_of_ble_eq_true rfl) (Nat.le_of_ble_eq_true rfl) rfl (c_M_rings hw) (fun r66 h67 hw => ?_)
          refine l_icmp_eq 1566 dL_law_670 rfl (fun hc => ?_) (fun hc => ?_)
          · have hw := hw.1 hc
            exact hJ1566 _ hw
          · have hw := hw.2 hc
            refine l_iconst (v := 0) dL_law_673 (by decide) ?_
            exact False.elim hw
        | 16, _, hc =>
          have hc : v1 = 16 := tsw_eq hc (by decide)
          have hw := hw.2.2.2.2.2.2.2.2.2.2.2.2.2.2.2.2.2.1 hc
          refine l_tswI 16 675 dL_law_33 hc (by decide) (by decide) (off := 642) (by decide) rfl ?_
          refine l_aload_n dL_law_675 rfl rfl ?_
          refine l_aload_n dL_law_676 rfl rfl ?_
          refine l_iload_n dL_law_677 rfl rfl ?_
          refine l_iconst (v := 1) dL_law_678 (by decide) ?_
          refine l_iadd dL_law_679 ?_
          refine l_sld dL_law_680 hw.1 ?_
          have hw := hw.2
          refine l_aload_n dL_law_681 rfl rfl ?_
          refine l_iload_n dL_law_682 rfl rfl ?_
          refine l_iconst (v := 2) dL_law_683 (by decide) ?_
          refine l_iadd dL_law_684 ?_
          refine l_sld dL_law_685 hw.1 ?_
          have hw := hw.2
          refine l_aload_n dL_law_686 rfl rfl ?_
          refine l_iload_n dL_law_687 rfl rfl ?_
          refine l_iconst (v := 3) dL_law_688 (by decide) ?_
          refine l_iadd dL_law_689 ?_
          refine l_sld dL_law_690 hw.1 ?_
          have hw := hw.2
          refine l_callVJ [.int (xs ((x3 + 1)).toNatClampNeg), .int (xs ((x3 + 2)).toNatClampNeg), .int (xs ((x3 + 3)).toNatClampNeg)] (ci := 11) dL_law_691 ml_L_82 mk_X11_ring rfl rfl sh0 (Nat.le_of_ble_eq_true rfl) (Nat.le_of_ble_eq_true rfl) rfl (c_C_ring hw) (fun r68 h69 hw => ?_)
          refine l_aload_n dL_law_694 rfl rfl ?_
          refine l_aload_n dL_law_695 rfl rfl ?_
          refine l_iload_n dL_law_696 rfl rfl ?_
          refine l_iconst (v := 1) dL_law_697 (by decide) ?_
          refine l_iadd dL_law_698 ?_
          refine l_sld dL_law_699 hw.1 ?_
          have hw := hw.2
          refine l_aload_n dL_law_700 rfl rfl ?_
          refine l_iload_n dL_law_701 rfl rfl ?_
          refine l_iconst (v := 2) dL_law_702 (by decide) ?_
          refine l_iadd dL_law_703 ?_
          refine l_sld dL_law_704 hw.1 ?_
          have hw := hw.2
          refine l_aload_n dL_law_705 rfl rfl ?_
          refine l_iload_n dL_law_706 rfl rfl ?_
          refine l_iconst (v := 3) dL_law_707 (by decide) ?_
          refine l_iadd dL_law_708 ?_
          refine l_sld dL_law_709 hw.1 ?_
          have hw := hw.2
          refine l_callVJ [.int (xs ((x3 + 1)).toNatClampNeg), .int (xs ((x3 + 2)).toNatClampNeg), .int (xs ((x3 + 3)).toNatClampNeg)] (ci := 12) dL_law_710 ml_L_86 mk_X12_ring rfl rfl sh98 (Nat.le_of_ble_eq_true rfl) (Nat.le_of_ble_eq_true rfl) rfl (c_M_ring hw) (fun r70 h71 hw => ?_)
          refine l_lc_eq 1566 dL_law_713 dL_law_714 rfl (fun hc => ?_) (fun hc => ?_)
          · have hw := hw.1 hc
            exact hJ1566 _ hw
          · have hw := hw.2 hc
            refine l_iconst (v := 0) dL_law_717 (by decide) ?_
            exact False.elim hw
        | 17, _, hc =>
          have hc : v1 = 17 := tsw_eq hc (by decide)
          have hw := hw.2.2.2.2.2.2.2.2.2.2.2.2.2.2.2.2.2.2.1 hc
          refine l_tswI 17 719 dL_law_33 hc (by decide) (by decide) (off := 686) (by decide) rfl ?_
          refine l_aload_n dL_law_719 rfl rfl ?_
          refine l_aload_n dL_law_720 rfl rfl ?_
          refine l_iload_n dL_law_721 rfl rfl ?_
          refine l_iconst (v := 1) dL_law_722 (by decide) ?_
          refine l_iadd dL_law_723 ?_
          refine l_sld dL_law_724 hw.1 ?_
          have hw := hw.2
          refine l_callVI [.int (xs ((x3 + 1)).toNatClampNeg)] (ci := 11) dL_law_725 ml_L_87 mk_X11_reach rfl rfl sh0 (Nat.le_of_ble_eq_true rfl) (Nat.le_of_ble_eq_true rfl) rfl (c_C_reach hw) (fun r72 h73 hw => ?_)
          refine l_aload_n dL_law_728 rfl rfl ?_
          refine l_aload_n dL_law_729 rfl rfl ?_
          refine l_iload_n dL_law_730 rfl rfl ?_
          refine l_iconst (v := 1) dL_law_731 (by decide) ?_
          refine l_iadd dL_law_732 ?_
          refine l_sld dL_law_733 hw.1 ?_
          have hw := hw.2
          refine l_callVI [.int (xs ((x3 + 1)).toNatClampNeg)] (ci := 12) dL_law_734 ml_L_90 mk_X12_reach rfl rfl sh98 (Nat.le_of_ble_eq_true rfl) (Nat.le_of_ble_eq_true rfl) rfl (c_M_reach hw) (fun r74 h75 hw => ?_)
          refine l_icmp_eq 1566 dL_law_737 rfl (fun hc => ?_) (fun hc => ?_)
          · have hw := hw.1 hc
            exact hJ1566 _ hw
          · have hw := hw.2 hc
            refine l_iconst (v := 0) dL_law_740 (by decide) ?_
            exact False.elim hw
        | 18, _, hc =>
          have hc : v1 = 18 := tsw_eq hc (by decide)
          have hw := hw.2.2.2.2.2.2.2.2.2.2.2.2.2.2.2.2.2.2.2.1 hc
          refine l_tswI 18 742 dL_law_33 hc (by decide) (by decide) (off := 709) (by decide) rfl ?_
          refine l_aload_n dL_law_742 rfl rfl ?_
          refine l_aload_n dL_law_743 rfl rfl ?_
          refine l_iload_n dL_law_744 rfl rfl ?_
          refine l_iconst (v := 1) dL_law_745 (by decide) ?_
          refine l_iadd dL_law_746 ?_
          refine l_sld dL_law_747 hw.1 ?_
          have hw := hw.2
          refine l_callVI [.int (xs ((x3 + 1)).toNatClampNeg)] (ci := 11) dL_law_748 ml_L_91 mk_X11_onRing rfl rfl sh0 (Nat.le_of_ble_eq_true rfl) (Nat.le_of_ble_eq_true rfl) rfl (c_C_onRing hw) (fun r76 h77 hw => ?_)
          refine l_aload_n dL_law_751 rfl rfl ?_
          refine l_aload_n dL_law_752 rfl rfl ?_
          refine l_iload_n dL_law_753 rfl rfl ?_
          refine l_iconst (v := 1) dL_law_754 (by decide) ?_
          refine l_iadd dL_law_755 ?_
          refine l_sld dL_law_756 hw.1 ?_
          have hw := hw.2
          refine l_callVI [.int (xs ((x3 + 1)).toNatClampNeg)] (ci := 12) dL_law_757 ml_L_94 mk_X12_onRing rfl rfl sh98 (Nat.le_of_ble_eq_true rfl) (Nat.le_of_ble_eq_true rfl) rfl (c_M_onRing hw) (fun r78 h79 hw => ?_)
          refine l_icmp_eq 1566 dL_law_760 rfl (fun hc => ?_) (fun hc => ?_)
          · have hw := hw.1 hc
            exact hJ1566 _ hw
          · have hw := hw.2 hc
            refine l_iconst (v := 0) dL_law_763 (by decide) ?_
            exact False.elim hw
        | 19, _, hc =>
          have hc : v1 = 19 := tsw_eq hc (by decide)
          have hw := hw.2.2.2.2.2.2.2.2.2.2.2.2.2.2.2.2.2.2.2.2.1 hc
          refine l_tswI 19 765 dL_law_33 hc (by decide) (by decide) (off := 732) (by decide) rfl ?_
          refine l_aload_n dL_law_765 rfl rfl ?_
          refine l_aload_n dL_law_766 rfl rfl ?_
          refine l_iload_n dL_law_767 rfl rfl ?_
          refine l_iconst (v := 1) dL_law_768 (by decide) ?_
          refine l_iadd dL_law_769 ?_
          refine l_sld dL_law_770 hw.1 ?_
          have hw := hw.2
          refine l_aload_n dL_law_771 rfl rfl ?_
          refine l_iload_n dL_law_772 rfl rfl ?_
          refine l_iconst (v := 2) dL_law_773 (by decide) ?_
          refine l_iadd dL_law_774 ?_
          refine l_sld dL_law_775 hw.1 ?_
          have hw := hw.2
          refine l_callVJ [.int (xs ((x3 + 1)).toNatClampNeg), .int (xs ((x3 + 2)).toNatClampNeg)] (ci := 11) dL_law_776 ml_L_95 mk_X11_worth rfl rfl sh0 (Nat.le_of_ble_eq_true rfl) (Nat.le_of_ble_eq_true rfl) rfl (c_C_worth hw) (fun r80 h81 hw => ?_)
          refine l_aload_n dL_law_779 rfl rfl ?_
          refine l_aload_n dL_law_780 rfl rfl ?_
          refine l_iload_n dL_law_781 rfl rfl ?_
          refine l_iconst (v := 1) dL_law_782 (by decide) ?_
          refine l_iadd dL_law_783 ?_
          refine l_sld dL_law_784 hw.1 ?_
          have hw := hw.2
          refine l_aload_n dL_law_785 rfl rfl ?_
          refine l_iload_n dL_law_786 rfl rfl ?_
          refine l_iconst (v := 2) dL_law_787 (by decide) ?_
          refine l_iadd dL_law_788 ?_
          refine l_sld dL_law_789 hw.1 ?_
          have hw := hw.2
          refine l_callVJ [.int (xs ((x3 + 1)).toNatClampNeg), .int (xs ((x3 + 2)).toNatClampNeg)] (ci := 12) dL_law_790 ml_L_99 mk_X12_worth rfl rfl sh98 (Nat.le_of_ble_eq_true rfl) (Nat.le_of_ble_eq_true rfl) rfl (c_M_worth hw) (fun r82 h83 hw => ?_)
          refine l_lc_eq 1566 dL_law_793 dL_law_794 rfl (fun hc => ?_) (fun hc => ?_)
          · have hw := hw.1 hc
            exact hJ1566 _ hw
          · have hw := hw.2 hc
            refine l_iconst (v := 0) dL_law_797 (by decide) ?_
            exact False.elim hw
        | 20, _, hc =>
          have hc : v1 = 20 := tsw_eq hc (by decide)
          have hw := hw.2.2.2.2.2.2.2.2.2.2.2.2.2.2.2.2.2.2.2.2.2.1 hc
          refine l_tswI 20 799 dL_law_33 hc (by decide) (by decide) (off := 766) (by decide) rfl ?_
          refine l_aload_n dL_law_799 rfl rfl ?_
          refine l_aload_n dL_law_800 rfl rfl ?_
          refine l_iload_n dL_law_801 rfl rfl ?_
          refine l_iconst (v := 1) dL_law_802 (by decide) ?_
          refine l_iadd dL_law_803 ?_
          refine l_sld dL_law_804 hw.1 ?_
          have hw := hw.2
          refine l_callVI [.int (xs ((x3 + 1)).toNatClampNeg)] (ci := 11) dL_law_805 ml_L_100 mk_X11_wins rfl rfl sh0 (Nat.le_of_ble_eq_true rfl) (Nat.le_of_ble_eq_true rfl) rfl (c_C_wins hw) (fun r84 h85 hw => ?_)
          refine l_aload_n dL_law_808 rfl rfl ?_
          refine l_aload_n dL_law_809 rfl rfl ?_
          refine l_iload_n dL_law_810 rfl rfl ?_
          refine l_iconst (v := 1) dL_law_811 (by decide) ?_
          refine l_iadd dL_law_812 ?_
          refine l_sld dL_law_813 hw.1 ?_
          have hw := hw.2
          refine l_callVI [.int (xs ((x3 + 1)).toNatClampNeg)] (ci := 12) dL_law_814 ml_L_103 mk_X12_wins rfl rfl sh98 (Nat.le_of_ble_eq_true rfl) (Nat.le_of_ble_eq_true rfl) rfl (c_M_wins hw) (fun r86 h87 hw => ?_)
          refine l_icmp_eq 1566 dL_law_817 rfl (fun hc => ?_) (fun hc => ?_)
          · have hw := hw.1 hc
            exact hJ1566 _ hw
          · have hw := hw.2 hc
            refine l_iconst (v := 0) dL_law_820 (by decide) ?_
            exact False.elim hw
        | 21, _, hc =>
          have hc : v1 = 21 := tsw_eq hc (by decide)
          have hw := hw.2.2.2.2.2.2.2.2.2.2.2.2.2.2.2.2.2.2.2.2.2.2.1 hc
          refine l_tswI 21 822 dL_law_33 hc (by decide) (by decide) (off := 789) (by decide) rfl ?_
          refine l_aload_n dL_law_822 rfl rfl ?_
          refine l_aload_n dL_law_823 rfl rfl ?_
          refine l_iload_n dL_law_824 rfl rfl ?_
          refine l_iconst (v := 1) dL_law_825 (by decide) ?_
          refine l_iadd dL_law_826 ?_
          refine l_sld dL_law_827 hw.1 ?_
          have hw := hw.2
          refine l_aload_n dL_law_828 rfl rfl ?_
          refine l_iload_n dL_law_829 rfl rfl ?_
          refine l_iconst (v := 2) dL_law_830 (by decide) ?_
          refine l_iadd dL_law_831 ?_
          refine l_sld dL_law_832 hw.1 ?_
          have hw := hw.2
          refine l_aload_n dL_law_833 rfl rfl ?_
          refine l_iload_n dL_law_834 rfl rfl ?_
          refine l_iconst (v := 3) dL_law_835 (by decide) ?_
          refine l_iadd dL_law_836 ?_
          refine l_sld dL_law_837 hw.1 ?_
          have hw := hw.2
          refine l_callVI [.int (xs ((x3 + 1)).toNatClampNeg), .int (xs ((x3 + 2)).toNatClampNeg), .int (xs ((x3 + 3)).toNatClampNeg)] (ci := 11) dL_law_838 ml_L_104 mk_X11_atLeast rfl rfl sh0 (Nat.le_of_ble_eq_true rfl) (Nat.le_of_ble_eq_true rfl) rfl (c_C_atLeast hw) (fun r88 h89 hw => ?_)
          refine l_aload_n dL_law_841 rfl rfl ?_
          refine l_aload_n dL_law_842 rfl rfl ?_
          refine l_iload_n dL_law_843 rfl rfl ?_
          refine l_iconst (v := 1) dL_law_844 (by decide) ?_
          refine l_iadd dL_law_845 ?_
          refine l_sld dL_law_846 hw.1 ?_
          have hw := hw.2
          refine l_aload_n dL_law_847 rfl rfl ?_
          refine l_iload_n dL_law_848 rfl rfl ?_
          refine l_iconst (v := 2) dL_law_849 (by decide) ?_
          refine l_iadd dL_law_850 ?_
          refine l_sld dL_law_851 hw.1 ?_
          have hw := hw.2
          refine l_aload_n dL_law_852 rfl rfl ?_
          refine l_iload_n dL_law_853 rfl rfl ?_
          refine l_iconst (v := 3) dL_law_854 (by decide) ?_
          refine l_iadd dL_law_855 ?_
          refine l_sld dL_law_856 hw.1 ?_
          have hw := hw.2
          refine l_callVI [.int (xs ((x3 + 1)).toNatClampNeg), .int (xs ((x3 + 2)).toNatClampNeg), .int (xs ((x3 + 3)).toNatClampNeg)] (ci := 12) dL_law_857 ml_L_108 mk_X12_atLeast rfl rfl sh98 (Nat.le_of_ble_eq_true rfl) (Nat.le_of_ble_eq_true rfl) rfl (c_M_atLeast hw) (fun r90 h91 hw => ?_)
          refine l_icmp_eq 1566 dL_law_860 rfl (fun hc => ?_) (fun hc => ?_)
          · have hw := hw.1 hc
            exact hJ1566 _ hw
          · have hw := hw.2 hc
            refine l_iconst (v := 0) dL_law_863 (by decide) ?_
            exact False.elim hw
        | 22, _, hc =>
          have hc : v1 = 22 := tsw_eq hc (by decide)
          have hw := hw.2.2.2.2.2.2.2.2.2.2.2.2.2.2.2.2.2.2.2.2.2.2.2.1 hc
          refine l_tswI 22 865 dL_law_33 hc (by decide) (by decide) (off := 832) (by decide) rfl ?_
          refine l_aload_n dL_law_865 rfl rfl ?_
          refine l_aload_n dL_law_866 rfl rfl ?_
          refine l_iload_n dL_law_867 rfl rfl ?_
          refine l_iconst (v := 1) dL_law_868 (by decide) ?_
          refine l_iadd dL_law_869 ?_
          refine l_sld dL_law_870 hw.1 ?_
          have hw := hw.2
          refine l_callVI [.int (xs ((x3 + 1)).toNatClampNeg)] (ci := 11) dL_law_871 ml_L_109 mk_X11_best rfl rfl sh0 (Nat.le_of_ble_eq_true rfl) (Nat.le_of_ble_eq_true rfl) rfl (c_C_best hw) (fun r92 h93 hw => ?_)
          refine l_aload_n dL_law_874 rfl rfl ?_
          refine l_aload_n dL_law_875 rfl rfl ?_
          refine l_iload_n dL_law_876 rfl rfl ?_
          refine l_iconst (v := 1) dL_law_877 (by decide) ?_
          refine l_iadd dL_law_878 ?_
          refine l_sld dL_law_879 hw.1 ?_
          have hw := hw.2
          refine l_callVI [.int (xs ((x3 + 1)).toNatClampNeg)] (ci := 12) dL_law_880 ml_L_112 mk_X12_best rfl rfl sh98 (Nat.le_of_ble_eq_true rfl) (Nat.le_of_ble_eq_true rfl) rfl (c_M_best hw) (fun r94 h95 hw => ?_)
          refine l_icmp_eq 1566 dL_law_883 rfl (fun hc => ?_) (fun hc => ?_)
          · have hw := hw.1 hc
            exact hJ1566 _ hw
          · have hw := hw.2 hc
            refine l_iconst (v := 0) dL_law_886 (by decide) ?_
            exact False.elim hw
        | 23, _, hc =>
          have hc : v1 = 23 := tsw_eq hc (by decide)
          have hw := hw.2.2.2.2.2.2.2.2.2.2.2.2.2.2.2.2.2.2.2.2.2.2.2.2.1 hc
          refine l_tswI 23 888 dL_law_33 hc (by decide) (by decide) (off := 855) (by decide) rfl ?_
          refine l_aload_n dL_law_888 rfl rfl ?_
          refine l_aload_n dL_law_889 rfl rfl ?_
          refine l_iload_n dL_law_890 rfl rfl ?_
          refine l_iconst (v := 1) dL_law_891 (by decide) ?_
          refine l_iadd dL_law_892 ?_
          refine l_sld dL_law_893 hw.1 ?_
          have hw := hw.2
          refine l_aload_n dL_law_894 rfl rfl ?_
          refine l_iload_n dL_law_895 rfl rfl ?_
          refine l_iconst (v := 2) dL_law_896 (by decide) ?_
          refine l_iadd dL_law_897 ?_
          refine l_sld dL_law_898 hw.1 ?_
          have hw := hw.2
          refine l_aload_n dL_law_899 rfl rfl ?_
          refine l_iload_n dL_law_900 rfl rfl ?_
          refine l_iconst (v := 3) dL_law_901 (by decide) ?_
          refine l_iadd dL_law_902 ?_
          refine l_sld dL_law_903 hw.1 ?_
          have hw := hw.2
          refine l_callVJ [.int (xs ((x3 + 1)).toNatClampNeg), .int (xs ((x3 + 2)).toNatClampNeg), .int (xs ((x3 + 3)).toNatClampNeg)] (ci := 11) dL_law_904 ml_L_113 mk_X11_secures rfl rfl sh0 (Nat.le_of_ble_eq_true rfl) (Nat.le_of_ble_eq_true rfl) rfl (c_C_secures hw) (fun r96 h97 hw => ?_)
          refine l_aload_n dL_law_907 rfl rfl ?_
          refine l_aload_n dL_law_908 rfl rfl ?_
          refine l_iload_n dL_law_909 rfl rfl ?_
          refine l_iconst (v := 1) dL_law_910 (by decide) ?_
          refine l_iadd dL_law_911 ?_
          refine l_sld dL_law_912 hw.1 ?_
          have hw := hw.2
          refine l_aload_n dL_law_913 rfl rfl ?_
          refine l_iload_n dL_law_914 rfl rfl ?_
          refine l_iconst (v := 2) dL_law_915 (by decide) ?_
          refine l_iadd dL_law_916 ?_
          refine l_sld dL_law_917 hw.1 ?_
          have hw := hw.2
          refine l_aload_n dL_law_918 rfl rfl ?_
          refine l_iload_n dL_law_919 rfl rfl ?_
          refine l_iconst (v := 3) dL_law_920 (by decide) ?_
          refine l_iadd dL_law_921 ?_
          refine l_sld dL_law_922 hw.1 ?_
          have hw := hw.2
          refine l_callVJ [.int (xs ((x3 + 1)).toNatClampNeg), .int (xs ((x3 + 2)).toNatClampNeg), .int (xs ((x3 + 3)).toNatClampNeg)] (ci := 12) dL_law_923 ml_L_116 mk_X12_secures rfl rfl sh98 (Nat.le_of_ble_eq_true rfl) (Nat.le_of_ble_eq_true rfl) rfl (c_M_secures hw) (fun r98 h99 hw => ?_)
          refine l_lc_eq 1566 dL_law_926 dL_law_927 rfl (fun hc => ?_) (fun hc => ?_)
          · have hw := hw.1 hc
            exact hJ1566 _ hw
          · have hw := hw.2 hc
            refine l_iconst (v := 0) dL_law_930 (by decide) ?_
            exact False.elim hw
        | 24, _, hc =>
          have hc : v1 = 24 := tsw_eq hc (by decide)
          have hw := hw.2.2.2.2.2.2.2.2.2.2.2.2.2.2.2.2.2.2.2.2.2.2.2.2.2.1 hc
          refine l_tswI 24 932 dL_law_33 hc (by decide) (by decide) (off := 899) (by decide) rfl ?_
          refine l_aload_n dL_law_932 rfl rfl ?_
          refine l_callVI [] (ci := 11) dL_law_933 ml_L_117 mk_X11_meet rfl rfl sh0 (Nat.le_of_ble_eq_true rfl) (Nat.le_of_ble_eq_true rfl) rfl (c_C_meet hw) (fun r100 h101 hw => ?_)
          refine l_aload_n dL_law_936 rfl rfl ?_
          refine l_callVI [] (ci := 12) dL_law_937 ml_L_120 mk_X12_meet rfl rfl sh98 (Nat.le_of_ble_eq_true rfl) (Nat.le_of_ble_eq_true rfl) rfl (c_M_meet hw) (fun r102 h103 hw => ?_)
          refine l_icmp_eq 1566 dL_law_940 rfl (fun hc => ?_) (fun hc => ?_)
          · have hw := hw.1 hc
            exact hJ1566 _ hw
          · have hw := hw.2 hc
            refine l_iconst (v := 0) dL_law_943 (by decide) ?_
            exact False.elim hw
        | 25, _, hc =>
          have hc : v1 = 25 := tsw_eq hc (by decide)
          have hw := hw.2.2.2.2.2.2.2.2.2.2.2.2.2.2.2.2.2.2.2.2.2.2.2.2.2.2.1 hc
          refine l_tswI 25 945 dL_law_33 hc (by decide) (by decide) (off := 912) (by decide) rfl ?_
          refine l_aload_n dL_law_945 rfl rfl ?_
          refine l_aload_n dL_law_946 rfl rfl ?_
          refine l_iload_n dL_law_947 rfl rfl ?_
          refine l_iconst (v := 1) dL_law_948 (by decide) ?_
          refine l_iadd dL_law_949 ?_
          refine l_sld dL_law_950 hw.1 ?_
          have hw := hw.2
          refine l_aload_n dL_law_951 rfl rfl ?_
          refine l_iload_n dL_law_952 rfl rfl ?_
          refine l_iconst (v := 2) dL_law_953 (by decide) ?_
          refine l_iadd dL_law_954 ?_
          refine l_sld dL_law_955 hw.1 ?_
          have hw := hw.2
          refine l_callVI [.int (xs ((x3 + 1)).toNatClampNeg), .int (xs ((x3 + 2)).toNatClampNeg)] (ci := 11) dL_law_956 ml_L_121 mk_X11_plans rfl rfl sh0 (Nat.le_of_ble_eq_true rfl) (Nat.le_of_ble_eq_true rfl) rfl (c_C_plans hw) (fun r104 h105 hw => ?_)
          refine l_aload_n dL_law_959 rfl rfl ?_
          refine l_aload_n dL_law_960 rfl rfl ?_
          refine l_iload_n dL_law_961 rfl rfl ?_
          refine l_iconst (v := 1) dL_law_962 (by decide) ?_
          refine l_iadd dL_law_963 ?_
          refine l_sld dL_law_964 hw.1 ?_
          have hw := hw.2
          refine l_aload_n dL_law_965 rfl rfl ?_
          refine l_iload_n dL_law_966 rfl rfl ?_
          refine l_iconst (v := 2) dL_law_967 (by decide) ?_
          refine l_iadd dL_law_968 ?_
          refine l_sld dL_law_969 hw.1 ?_
          have hw := hw.2
          refine l_callVI [.int (xs ((x3 + 1)).toNatClampNeg), .int (xs ((x3 + 2)).toNatClampNeg)] (ci := 12) dL_law_970 ml_L_124 mk_X12_plans rfl rfl sh98 (Nat.le_of_ble_eq_true rfl) (Nat.le_of_ble_eq_true rfl) rfl (c_M_plans hw) (fun r106 h107 hw => ?_)
          refine l_icmp_eq 1566 dL_law_973 rfl (fun hc => ?_) (fun hc => ?_)
          · have hw := hw.1 hc
            exact hJ1566 _ hw
          · have hw := hw.2 hc
            refine l_iconst (v := 0) dL_law_976 (by decide) ?_
            exact False.elim hw
        | 26, _, hc =>
          have hc : v1 = 26 := tsw_eq hc (by decide)
          have hw := hw.2.2.2.2.2.2.2.2.2.2.2.2.2.2.2.2.2.2.2.2.2.2.2.2.2.2.2.1 hc
          refine l_tswI 26 978 dL_law_33 hc (by decide) (by decide) (off := 945) (by decide) rfl ?_
          refine l_aload_n dL_law_978 rfl rfl ?_
          refine l_aload_n dL_law_979 rfl rfl ?_
          refine l_iload_n dL_law_980 rfl rfl ?_
          refine l_iconst (v := 1) dL_law_981 (by decide) ?_
          refine l_iadd dL_law_982 ?_
          refine l_sld dL_law_983 hw.1 ?_
          have hw := hw.2
          refine l_callVI [.int (xs ((x3 + 1)).toNatClampNeg)] (ci := 11) dL_law_984 ml_L_125 mk_X11_energy rfl rfl sh0 (Nat.le_of_ble_eq_true rfl) (Nat.le_of_ble_eq_true rfl) rfl (c_C_energy hw) (fun r108 h109 hw => ?_)
          refine l_aload_n dL_law_987 rfl rfl ?_
          refine l_aload_n dL_law_988 rfl rfl ?_
          refine l_iload_n dL_law_989 rfl rfl ?_
          refine l_iconst (v := 1) dL_law_990 (by decide) ?_
          refine l_iadd dL_law_991 ?_
          refine l_sld dL_law_992 hw.1 ?_
          have hw := hw.2
          refine l_callVI [.int (xs ((x3 + 1)).toNatClampNeg)] (ci := 12) dL_law_993 ml_L_128 mk_X12_energy rfl rfl sh98 (Nat.le_of_ble_eq_true rfl) (Nat.le_of_ble_eq_true rfl) rfl (c_M_energy hw) (fun r110 h111 hw => ?_)
          refine l_icmp_eq 1566 dL_law_996 rfl (fun hc => ?_) (fun hc => ?_)
          · have hw := hw.1 hc
            exact hJ1566 _ hw
          · have hw := hw.2 hc
            refine l_iconst (v := 0) dL_law_999 (by decide) ?_
            exact False.elim hw
        | 27, _, hc =>
          have hc : v1 = 27 := tsw_eq hc (by decide)
          have hw := hw.2.2.2.2.2.2.2.2.2.2.2.2.2.2.2.2.2.2.2.2.2.2.2.2.2.2.2.2.1 hc
          refine l_tswI 27 1001 dL_law_33 hc (by decide) (by decide) (off := 968) (by decide) rfl ?_
          refine l_aload_n dL_law_1001 rfl rfl ?_
          refine l_aload_n dL_law_1002 rfl rfl ?_
          refine l_iload_n dL_law_1003 rfl rfl ?_
          refine l_iconst (v := 1) dL_law_1004 (by decide) ?_
          refine l_iadd dL_law_1005 ?_
          refine l_sld dL_law_1006 hw.1 ?_
          have hw := hw.2
          refine l_i2l dL_law_1007 ?_
          refine l_bipush (v := 32) dL_law_1008 (by decide) ?_
          refine l_lshl dL_law_1010 ?_
          refine l_aload_n dL_law_1011 rfl rfl ?_
          refine l_iload_n dL_law_1012 rfl rfl ?_
          refine l_iconst (v := 2) dL_law_1013 (by decide) ?_
          refine l_iadd dL_law_1014 ?_
          refine l_sld dL_law_1015 hw.1 ?_
          have hw := hw.2
          refine l_i2l dL_law_1016 ?_
          refine l_ldc2 dL_law_1017 kl_L_129 ?_
          refine l_land dL_law_1020 ?_
          refine l_lor dL_law_1021 ?_
          refine l_callVI [.long (((((xs ((x3 + 1)).toNatClampNeg)).toInt64) <<< (((32 : Int32)).toInt64 &&& 63)) ||| ((((xs ((x3 + 2)).toNatClampNeg)).toInt64) &&& (4294967295 : Int64)))] (ci := 11) dL_law_1022 ml_L_131 mk_X11_at rfl rfl sh0 (Nat.le_of_ble_eq_true rfl) (Nat.le_of_ble_eq_true rfl) rfl (c_C_at hw) (fun r112 h113 hw => ?_)
          refine l_aload_n dL_law_1025 rfl rfl ?_
          refine l_aload_n dL_law_1026 rfl rfl ?_
          refine l_iload_n dL_law_1027 rfl rfl ?_
          refine l_iconst (v := 1) dL_law_1028 (by decide) ?_
          refine l_iadd dL_law_1029 ?_
          refine l_sld dL_law_1030 hw.1 ?_
          have hw := hw.2
          refine l_i2l dL_law_1031 ?_
          refine l_bipush (v := 32) dL_law_1032 (by decide) ?_
          refine l_lshl dL_law_1034 ?_
          refine l_aload_n dL_law_1035 rfl rfl ?_
          refine l_iload_n dL_law_1036 rfl rfl ?_
          refine l_iconst (v := 2) dL_law_1037 (by decide) ?_
          refine l_iadd dL_law_1038 ?_
          refine l_sld dL_law_1039 hw.1 ?_
          have hw := hw.2
          refine l_i2l dL_law_1040 ?_
          refine l_ldc2 dL_law_1041 kl_L_129 ?_
          refine l_land dL_law_1044 ?_
          refine l_lor dL_law_1045 ?_
          refine l_callVI [.long (((((xs ((x3 + 1)).toNatClampNeg)).toInt64) <<< (((32 : Int32)).toInt64 &&& 63)) ||| ((((xs ((x3 + 2)).toNatClampNeg)).toInt64) &&& (4294967295 : Int64)))] (ci := 12) dL_law_1046 ml_L_135 mk_X12_at rfl rfl sh98 (Nat.le_of_ble_eq_true rfl) (Nat.le_of_ble_eq_true rfl) rfl (c_M_at hw) (fun r114 h115 hw => ?_)
          refine l_icmp_eq 1566 dL_law_1049 rfl (fun hc => ?_) (fun hc => ?_)
          · have hw := hw.1 hc
            exact hJ1566 _ hw
          · have hw := hw.2 hc
            refine l_iconst (v := 0) dL_law_1052 (by decide) ?_
            exact False.elim hw
        | 28, _, hc =>
          have hc : v1 = 28 := tsw_eq hc (by decide)
          have hw := hw.2.2.2.2.2.2.2.2.2.2.2.2.2.2.2.2.2.2.2.2.2.2.2.2.2.2.2.2.2.1 hc
          refine l_tswI 28 1054 dL_law_33 hc (by decide) (by decide) (off := 1021) (by decide) rfl ?_
          refine l_aload_n dL_law_1054 rfl rfl ?_
          refine l_aload_n dL_law_1055 rfl rfl ?_
          refine l_iload_n dL_law_1056 rfl rfl ?_
          refine l_iconst (v := 1) dL_law_1057 (by decide) ?_
          refine l_iadd dL_law_1058 ?_
          refine l_sld dL_law_1059 hw.1 ?_
          have hw := hw.2
          refine l_i2l dL_law_1060 ?_
          refine l_bipush (v := 32) dL_law_1061 (by decide) ?_
          refine l_lshl dL_law_1063 ?_
          refine l_aload_n dL_law_1064 rfl rfl ?_
          refine l_iload_n dL_law_1065 rfl rfl ?_
          refine l_iconst (v := 2) dL_law_1066 (by decide) ?_
          refine l_iadd dL_law_1067 ?_
          refine l_sld dL_law_1068 hw.1 ?_
          have hw := hw.2
          refine l_i2l dL_law_1069 ?_
          refine l_ldc2 dL_law_1070 kl_L_129 ?_
          refine l_land dL_law_1073 ?_
          refine l_lor dL_law_1074 ?_
          refine l_callVJ [.long (((((xs ((x3 + 1)).toNatClampNeg)).toInt64) <<< (((32 : Int32)).toInt64 &&& 63)) ||| ((((xs ((x3 + 2)).toNatClampNeg)).toInt64) &&& (4294967295 : Int64)))] (ci := 11) dL_law_1075 ml_L_136 mk_X11_purse rfl rfl sh0 (Nat.le_of_ble_eq_true rfl) (Nat.le_of_ble_eq_true rfl) rfl (c_C_purse hw) (fun r116 h117 hw => ?_)
          refine l_aload_n dL_law_1078 rfl rfl ?_
          refine l_aload_n dL_law_1079 rfl rfl ?_
          refine l_iload_n dL_law_1080 rfl rfl ?_
          refine l_iconst (v := 1) dL_law_1081 (by decide) ?_
          refine l_iadd dL_law_1082 ?_
          refine l_sld dL_law_1083 hw.1 ?_
          have hw := hw.2
          refine l_i2l dL_law_1084 ?_
          refine l_bipush (v := 32) dL_law_1085 (by decide) ?_
          refine l_lshl dL_law_1087 ?_
          refine l_aload_n dL_law_1088 rfl rfl ?_
          refine l_iload_n dL_law_1089 rfl rfl ?_
          refine l_iconst (v := 2) dL_law_1090 (by decide) ?_
          refine l_iadd dL_law_1091 ?_
          refine l_sld dL_law_1092 hw.1 ?_
          have hw := hw.2
          refine l_i2l dL_law_1093 ?_
          refine l_ldc2 dL_law_1094 kl_L_129 ?_
          refine l_land dL_law_1097 ?_
          refine l_lor dL_law_1098 ?_
          refine l_callVJ [.long (((((xs ((x3 + 1)).toNatClampNeg)).toInt64) <<< (((32 : Int32)).toInt64 &&& 63)) ||| ((((xs ((x3 + 2)).toNatClampNeg)).toInt64) &&& (4294967295 : Int64)))] (ci := 12) dL_law_1099 ml_L_140 mk_X12_purse rfl rfl sh98 (Nat.le_of_ble_eq_true rfl) (Nat.le_of_ble_eq_true rfl) rfl (c_M_purse hw) (fun r118 h119 hw => ?_)
          refine l_lc_eq 1566 dL_law_1102 dL_law_1103 rfl (fun hc => ?_) (fun hc => ?_)
          · have hw := hw.1 hc
            exact hJ1566 _ hw
          · have hw := hw.2 hc
            refine l_iconst (v := 0) dL_law_1106 (by decide) ?_
            exact False.elim hw
        | 29, _, hc =>
          have hc : v1 = 29 := tsw_eq hc (by decide)
          have hw := hw.2.2.2.2.2.2.2.2.2.2.2.2.2.2.2.2.2.2.2.2.2.2.2.2.2.2.2.2.2.2.1 hc
          refine l_tswI 29 1108 dL_law_33 hc (by decide) (by decide) (off := 1075) (by decide) rfl ?_
          refine l_aload_n dL_law_1108 rfl rfl ?_
          refine l_aload_n dL_law_1109 rfl rfl ?_
          refine l_iload_n dL_law_1110 rfl rfl ?_
          refine l_iconst (v := 1) dL_law_1111 (by decide) ?_
          refine l_iadd dL_law_1112 ?_
          refine l_sld dL_law_1113 hw.1 ?_
          have hw := hw.2
          refine l_callVI [.int (xs ((x3 + 1)).toNatClampNeg)] (ci := 11) dL_law_1114 ml_L_141 mk_X11_round rfl rfl sh0 (Nat.le_of_ble_eq_true rfl) (Nat.le_of_ble_eq_true rfl) rfl (c_C_round hw) (fun r120 h121 hw => ?_)
          refine l_aload_n dL_law_1117 rfl rfl ?_
          refine l_aload_n dL_law_1118 rfl rfl ?_
          refine l_iload_n dL_law_1119 rfl rfl ?_
          refine l_iconst (v := 1) dL_law_1120 (by decide) ?_
          refine l_iadd dL_law_1121 ?_
          refine l_sld dL_law_1122 hw.1 ?_
          have hw := hw.2
          refine l_callVI [.int (xs ((x3 + 1)).toNatClampNeg)] (ci := 12) dL_law_1123 ml_L_144 mk_X12_round rfl rfl sh98 (Nat.le_of_ble_eq_true rfl) (Nat.le_of_ble_eq_true rfl) rfl (c_M_round hw) (fun r122 h123 hw => ?_)
          refine l_icmp_eq 1566 dL_law_1126 rfl (fun hc => ?_) (fun hc => ?_)
          · have hw := hw.1 hc
            exact hJ1566 _ hw
          · have hw := hw.2 hc
            refine l_iconst (v := 0) dL_law_1129 (by decide) ?_
            exact False.elim hw
        | 30, _, hc =>
          have hc : v1 = 30 := tsw_eq hc (by decide)
          have hw := hw.2.2.2.2.2.2.2.2.2.2.2.2.2.2.2.2.2.2.2.2.2.2.2.2.2.2.2.2.2.2.2.1 hc
          refine l_tswI 30 1131 dL_law_33 hc (by decide) (by decide) (off := 1098) (by decide) rfl ?_
          refine l_aload_n dL_law_1131 rfl rfl ?_
          refine l_aload_n dL_law_1132 rfl rfl ?_
          refine l_iload_n dL_law_1133 rfl rfl ?_
          refine l_iconst (v := 1) dL_law_1134 (by decide) ?_
          refine l_iadd dL_law_1135 ?_
          refine l_sld dL_law_1136 hw.1 ?_
          have hw := hw.2
          refine l_callVJ [.int (xs ((x3 + 1)).toNatClampNeg)] (ci := 11) dL_law_1137 ml_L_145 mk_X11_paid rfl rfl sh0 (Nat.le_of_ble_eq_true rfl) (Nat.le_of_ble_eq_true rfl) rfl (c_C_paid hw) (fun r124 h125 hw => ?_)
          refine l_aload_n dL_law_1140 rfl rfl ?_
          refine l_aload_n dL_law_1141 rfl rfl ?_
          refine l_iload_n dL_law_1142 rfl rfl ?_
          refine l_iconst (v := 1) dL_law_1143 (by decide) ?_
          refine l_iadd dL_law_1144 ?_
          refine l_sld dL_law_1145 hw.1 ?_
          have hw := hw.2
          refine l_callVJ [.int (xs ((x3 + 1)).toNatClampNeg)] (ci := 12) dL_law_1146 ml_L_148 mk_X12_paid rfl rfl sh98 (Nat.le_of_ble_eq_true rfl) (Nat.le_of_ble_eq_true rfl) rfl (c_M_paid hw) (fun r126 h127 hw => ?_)
          refine l_lc_eq 1566 dL_law_1149 dL_law_1150 rfl (fun hc => ?_) (fun hc => ?_)
          · have hw := hw.1 hc
            exact hJ1566 _ hw
          · have hw := hw.2 hc
            refine l_iconst (v := 0) dL_law_1153 (by decide) ?_
            exact False.elim hw
        | 31, _, hc =>
          have hc : v1 = 31 := tsw_eq hc (by decide)
          have hw := hw.2.2.2.2.2.2.2.2.2.2.2.2.2.2.2.2.2.2.2.2.2.2.2.2.2.2.2.2.2.2.2.2.1 hc
          refine l_tswI 31 1155 dL_law_33 hc (by decide) (by decide) (off := 1122) (by decide) rfl ?_
          refine l_aload_n dL_law_1155 rfl rfl ?_
          refine l_aload_n dL_law_1156 rfl rfl ?_
          refine l_iload_n dL_law_1157 rfl rfl ?_
          refine l_iconst (v := 1) dL_law_1158 (by decide) ?_
          refine l_iadd dL_law_1159 ?_
          refine l_sld dL_law_1160 hw.1 ?_
          have hw := hw.2
          refine l_aload_n dL_law_1161 rfl rfl ?_
          refine l_iload_n dL_law_1162 rfl rfl ?_
          refine l_iconst (v := 2) dL_law_1163 (by decide) ?_
          refine l_iadd dL_law_1164 ?_
          refine l_sld dL_law_1165 hw.1 ?_
          have hw := hw.2
          refine l_callVI [.int (xs ((x3 + 1)).toNatClampNeg), .int (xs ((x3 + 2)).toNatClampNeg)] (ci := 11) dL_law_1166 ml_L_149 mk_X11_rows rfl rfl sh0 (Nat.le_of_ble_eq_true rfl) (Nat.le_of_ble_eq_true rfl) rfl (c_C_rows hw) (fun r128 h129 hw => ?_)
          refine l_aload_n dL_law_1169 rfl rfl ?_
          refine l_aload_n dL_law_1170 rfl rfl ?_
          refine l_iload_n dL_law_1171 rfl rfl ?_
          refine l_iconst (v := 1) dL_law_1172 (by decide) ?_
          refine l_iadd dL_law_1173 ?_
          refine l_sld dL_law_1174 hw.1 ?_
          have hw := hw.2
          refine l_aload_n dL_law_1175 rfl rfl ?_
          refine l_iload_n dL_law_1176 rfl rfl ?_
          refine l_iconst (v := 2) dL_law_1177 (by decide) ?_
          refine l_iadd dL_law_1178 ?_
          refine l_sld dL_law_1179 hw.1 ?_
          have hw := hw.2
          refine l_callVI [.int (xs ((x3 + 1)).toNatClampNeg), .int (xs ((x3 + 2)).toNatClampNeg)] (ci := 12) dL_law_1180 ml_L_152 mk_X12_rows rfl rfl sh98 (Nat.le_of_ble_eq_true rfl) (Nat.le_of_ble_eq_true rfl) rfl (c_M_rows hw) (fun r130 h131 hw => ?_)
          refine l_icmp_eq 1566 dL_law_1183 rfl (fun hc => ?_) (fun hc => ?_)
          · have hw := hw.1 hc
            exact hJ1566 _ hw
          · have hw := hw.2 hc
            refine l_iconst (v := 0) dL_law_1186 (by decide) ?_
            exact False.elim hw
        | 32, _, hc =>
          have hc : v1 = 32 := tsw_eq hc (by decide)
          have hw := hw.2.2.2.2.2.2.2.2.2.2.2.2.2.2.2.2.2.2.2.2.2.2.2.2.2.2.2.2.2.2.2.2.2.1 hc
          refine l_tswI 32 1188 dL_law_33 hc (by decide) (by decide) (off := 1155) (by decide) rfl ?_
          refine l_aload_n dL_law_1188 rfl rfl ?_
          refine l_aload_n dL_law_1189 rfl rfl ?_
          refine l_iload_n dL_law_1190 rfl rfl ?_
          refine l_iconst (v := 1) dL_law_1191 (by decide) ?_
          refine l_iadd dL_law_1192 ?_
          refine l_sld dL_law_1193 hw.1 ?_
          have hw := hw.2
          refine l_callVI [.int (xs ((x3 + 1)).toNatClampNeg)] (ci := 11) dL_law_1194 ml_L_153 mk_X11_sums rfl rfl sh0 (Nat.le_of_ble_eq_true rfl) (Nat.le_of_ble_eq_true rfl) rfl (c_C_sums hw) (fun r132 h133 hw => ?_)
          refine l_aload_n dL_law_1197 rfl rfl ?_
          refine l_aload_n dL_law_1198 rfl rfl ?_
          refine l_iload_n dL_law_1199 rfl rfl ?_
          refine l_iconst (v := 1) dL_law_1200 (by decide) ?_
          refine l_iadd dL_law_1201 ?_
          refine l_sld dL_law_1202 hw.1 ?_
          have hw := hw.2
          refine l_callVI [.int (xs ((x3 + 1)).toNatClampNeg)] (ci := 12) dL_law_1203 ml_L_156 mk_X12_sums rfl rfl sh98 (Nat.le_of_ble_eq_true rfl) (Nat.le_of_ble_eq_true rfl) rfl (c_M_sums hw) (fun r134 h135 hw => ?_)
          refine l_icmp_eq 1566 dL_law_1206 rfl (fun hc => ?_) (fun hc => ?_)
          · have hw := hw.1 hc
            exact hJ1566 _ hw
          · have hw := hw.2 hc
            refine l_iconst (v := 0) dL_law_1209 (by decide) ?_
            exact False.elim hw
        | 33, _, hc =>
          have hc : v1 = 33 := tsw_eq hc (by decide)
          have hw := hw.2.2.2.2.2.2.2.2.2.2.2.2.2.2.2.2.2.2.2.2.2.2.2.2.2.2.2.2.2.2.2.2.2.2.1 hc
          refine l_tswI 33 1211 dL_law_33 hc (by decide) (by decide) (off := 1178) (by decide) rfl ?_
          refine l_aload_n dL_law_1211 rfl rfl ?_
          refine l_aload_n dL_law_1212 rfl rfl ?_
          refine l_iload_n dL_law_1213 rfl rfl ?_
          refine l_iconst (v := 1) dL_law_1214 (by decide) ?_
          refine l_iadd dL_law_1215 ?_
          refine l_sld dL_law_1216 hw.1 ?_
          have hw := hw.2
          refine l_aload_n dL_law_1217 rfl rfl ?_
          refine l_iload_n dL_law_1218 rfl rfl ?_
          refine l_iconst (v := 2) dL_law_1219 (by decide) ?_
          refine l_iadd dL_law_1220 ?_
          refine l_sld dL_law_1221 hw.1 ?_
          have hw := hw.2
          refine l_callVI [.int (xs ((x3 + 1)).toNatClampNeg), .int (xs ((x3 + 2)).toNatClampNeg)] (ci := 11) dL_law_1222 ml_L_157 mk_X11_sumsAt rfl rfl sh0 (Nat.le_of_ble_eq_true rfl) (Nat.le_of_ble_eq_true rfl) rfl (c_C_sumsAt hw) (fun r136 h137 hw => ?_)
          refine l_aload_n dL_law_1225 rfl rfl ?_
          refine l_aload_n dL_law_1226 rfl rfl ?_
          refine l_iload_n dL_law_1227 rfl rfl ?_
          refine l_iconst (v := 1) dL_law_1228 (by decide) ?_
          refine l_iadd dL_law_1229 ?_
          refine l_sld dL_law_1230 hw.1 ?_
          have hw := hw.2
          refine l_aload_n dL_law_1231 rfl rfl ?_
          refine l_iload_n dL_law_1232 rfl rfl ?_
          refine l_iconst (v := 2) dL_law_1233 (by decide) ?_
          refine l_iadd dL_law_1234 ?_
          refine l_sld dL_law_1235 hw.1 ?_
          have hw := hw.2
          refine l_callVI [.int (xs ((x3 + 1)).toNatClampNeg), .int (xs ((x3 + 2)).toNatClampNeg)] (ci := 12) dL_law_1236 ml_L_160 mk_X12_sumsAt rfl rfl sh98 (Nat.le_of_ble_eq_true rfl) (Nat.le_of_ble_eq_true rfl) rfl (c_M_sumsAt hw) (fun r138 h139 hw => ?_)
          refine l_icmp_eq 1566 dL_law_1239 rfl (fun hc => ?_) (fun hc => ?_)
          · have hw := hw.1 hc
            exact hJ1566 _ hw
          · have hw := hw.2 hc
            refine l_iconst (v := 0) dL_law_1242 (by decide) ?_
            exact False.elim hw
        | 34, _, hc =>
          have hc : v1 = 34 := tsw_eq hc (by decide)
          have hw := hw.2.2.2.2.2.2.2.2.2.2.2.2.2.2.2.2.2.2.2.2.2.2.2.2.2.2.2.2.2.2.2.2.2.2.2.1 hc
          refine l_tswI 34 1244 dL_law_33 hc (by decide) (by decide) (off := 1211) (by decide) rfl ?_
          refine l_aload_n dL_law_1244 rfl rfl ?_
          refine l_aload_n dL_law_1245 rfl rfl ?_
          refine l_iload_n dL_law_1246 rfl rfl ?_
          refine l_iconst (v := 1) dL_law_1247 (by decide) ?_
          refine l_iadd dL_law_1248 ?_
          refine l_sld dL_law_1249 hw.1 ?_
          have hw := hw.2
          refine l_callVI [.int (xs ((x3 + 1)).toNatClampNeg)] (ci := 11) dL_law_1250 ml_L_161 mk_X11_weathers rfl rfl sh0 (Nat.le_of_ble_eq_true rfl) (Nat.le_of_ble_eq_true rfl) rfl (c_C_weathers hw) (fun r140 h141 hw => ?_)
          refine l_aload_n dL_law_1253 rfl rfl ?_
          refine l_aload_n dL_law_1254 rfl rfl ?_
          refine l_iload_n dL_law_1255 rfl rfl ?_
          refine l_iconst (v := 1) dL_law_1256 (by decide) ?_
          refine l_iadd dL_law_1257 ?_
          refine l_sld dL_law_1258 hw.1 ?_
          have hw := hw.2
          refine l_callVI [.int (xs ((x3 + 1)).toNatClampNeg)] (ci := 12) dL_law_1259 ml_L_164 mk_X12_weathers rfl rfl sh98 (Nat.le_of_ble_eq_true rfl) (Nat.le_of_ble_eq_true rfl) rfl (c_M_weathers hw) (fun r142 h143 hw => ?_)
          refine l_icmp_eq 1566 dL_law_1262 rfl (fun hc => ?_) (fun hc => ?_)
          · have hw := hw.1 hc
            exact hJ1566 _ hw
          · have hw := hw.2 hc
            refine l_iconst (v := 0) dL_law_1265 (by decide) ?_
            exact False.elim hw
        | 35, _, hc =>
          have hc : v1 = 35 := tsw_eq hc (by decide)
          have hw := hw.2.2.2.2.2.2.2.2.2.2.2.2.2.2.2.2.2.2.2.2.2.2.2.2.2.2.2.2.2.2.2.2.2.2.2.2.1 hc
          refine l_tswI 35 1267 dL_law_33 hc (by decide) (by decide) (off := 1234) (by decide) rfl ?_
          refine l_aload_n dL_law_1267 rfl rfl ?_
          refine l_aload_n dL_law_1268 rfl rfl ?_
          refine l_iload_n dL_law_1269 rfl rfl ?_
          refine l_iconst (v := 1) dL_law_1270 (by decide) ?_
          refine l_iadd dL_law_1271 ?_
          refine l_sld dL_law_1272 hw.1 ?_
          have hw := hw.2
          refine l_callVI [.int (xs ((x3 + 1)).toNatClampNeg)] (ci := 11) dL_law_1273 ml_L_165 mk_X11_ask rfl rfl sh0 (Nat.le_of_ble_eq_true rfl) (Nat.le_of_ble_eq_true rfl) rfl (c_C_ask hw) (fun r144 h145 hw => ?_)
          refine l_aload_n dL_law_1276 rfl rfl ?_
          refine l_aload_n dL_law_1277 rfl rfl ?_
          refine l_iload_n dL_law_1278 rfl rfl ?_
          refine l_iconst (v := 1) dL_law_1279 (by decide) ?_
          refine l_iadd dL_law_1280 ?_
          refine l_sld dL_law_1281 hw.1 ?_
          have hw := hw.2
          refine l_callVI [.int (xs ((x3 + 1)).toNatClampNeg)] (ci := 12) dL_law_1282 ml_L_168 mk_X12_ask rfl rfl sh98 (Nat.le_of_ble_eq_true rfl) (Nat.le_of_ble_eq_true rfl) rfl (c_M_ask hw) (fun r146 h147 hw => ?_)
          refine l_icmp_eq 1566 dL_law_1285 rfl (fun hc => ?_) (fun hc => ?_)
          · have hw := hw.1 hc
            exact hJ1566 _ hw
          · have hw := hw.2 hc
            refine l_iconst (v := 0) dL_law_1288 (by decide) ?_
            exact False.elim hw
        | 36, _, hc =>
          have hc : v1 = 36 := tsw_eq hc (by decide)
          have hw := hw.2.2.2.2.2.2.2.2.2.2.2.2.2.2.2.2.2.2.2.2.2.2.2.2.2.2.2.2.2.2.2.2.2.2.2.2.2.1 hc
          refine l_tswI 36 1290 dL_law_33 hc (by decide) (by decide) (off := 1257) (by decide) rfl ?_
          refine l_aload_n dL_law_1290 rfl rfl ?_
          refine l_aload_n dL_law_1291 rfl rfl ?_
          refine l_iload_n dL_law_1292 rfl rfl ?_
          refine l_iconst (v := 1) dL_law_1293 (by decide) ?_
          refine l_iadd dL_law_1294 ?_
          refine l_sld dL_law_1295 hw.1 ?_
          have hw := hw.2
          refine l_aload_n dL_law_1296 rfl rfl ?_
          refine l_iload_n dL_law_1297 rfl rfl ?_
          refine l_iconst (v := 2) dL_law_1298 (by decide) ?_
          refine l_iadd dL_law_1299 ?_
          refine l_sld dL_law_1300 hw.1 ?_
          have hw := hw.2
          refine l_callVI [.int (xs ((x3 + 1)).toNatClampNeg), .int (xs ((x3 + 2)).toNatClampNeg)] (ci := 11) dL_law_1301 ml_L_169 mk_X11_chance rfl rfl sh0 (Nat.le_of_ble_eq_true rfl) (Nat.le_of_ble_eq_true rfl) rfl (c_C_chance hw) (fun r148 h149 hw => ?_)
          refine l_aload_n dL_law_1304 rfl rfl ?_
          refine l_aload_n dL_law_1305 rfl rfl ?_
          refine l_iload_n dL_law_1306 rfl rfl ?_
          refine l_iconst (v := 1) dL_law_1307 (by decide) ?_
          refine l_iadd dL_law_1308 ?_
          refine l_sld dL_law_1309 hw.1 ?_
          have hw := hw.2
          refine l_aload_n dL_law_1310 rfl rfl ?_
          refine l_iload_n dL_law_1311 rfl rfl ?_
          refine l_iconst (v := 2) dL_law_1312 (by decide) ?_
          refine l_iadd dL_law_1313 ?_
          refine l_sld dL_law_1314 hw.1 ?_
          have hw := hw.2
          refine l_callVI [.int (xs ((x3 + 1)).toNatClampNeg), .int (xs ((x3 + 2)).toNatClampNeg)] (ci := 12) dL_law_1315 ml_L_172 mk_X12_chance rfl rfl sh98 (Nat.le_of_ble_eq_true rfl) (Nat.le_of_ble_eq_true rfl) rfl (c_M_chance hw) (fun r150 h151 hw => ?_)
          refine l_icmp_eq 1566 dL_law_1318 rfl (fun hc => ?_) (fun hc => ?_)
          · have hw := hw.1 hc
            exact hJ1566 _ hw
          · have hw := hw.2 hc
            refine l_iconst (v := 0) dL_law_1321 (by decide) ?_
            exact False.elim hw
        | 37, _, hc =>
          have hc : v1 = 37 := tsw_eq hc (by decide)
          have hw := hw.2.2.2.2.2.2.2.2.2.2.2.2.2.2.2.2.2.2.2.2.2.2.2.2.2.2.2.2.2.2.2.2.2.2.2.2.2.2.1 hc
          refine l_tswI 37 1323 dL_law_33 hc (by decide) (by decide) (off := 1290) (by decide) rfl ?_
          refine l_aload_n dL_law_1323 rfl rfl ?_
          refine l_aload_n dL_law_1324 rfl rfl ?_
          refine l_iload_n dL_law_1325 rfl rfl ?_
          refine l_iconst (v := 1) dL_law_1326 (by decide) ?_
          refine l_iadd dL_law_1327 ?_
          refine l_sld dL_law_1328 hw.1 ?_
          have hw := hw.2
          refine l_aload_n dL_law_1329 rfl rfl ?_
          refine l_iload_n dL_law_1330 rfl rfl ?_
          refine l_iconst (v := 2) dL_law_1331 (by decide) ?_
          refine l_iadd dL_law_1332 ?_
          refine l_sld dL_law_1333 hw.1 ?_
          have hw := hw.2
          refine l_callVJ [.int (xs ((x3 + 1)).toNatClampNeg), .int (xs ((x3 + 2)).toNatClampNeg)] (ci := 11) dL_law_1334 ml_L_173 mk_X11_mean rfl rfl sh0 (Nat.le_of_ble_eq_true rfl) (Nat.le_of_ble_eq_true rfl) rfl (c_C_mean hw) (fun r152 h153 hw => ?_)
          refine l_aload_n dL_law_1337 rfl rfl ?_
          refine l_aload_n dL_law_1338 rfl rfl ?_
          refine l_iload_n dL_law_1339 rfl rfl ?_
          refine l_iconst (v := 1) dL_law_1340 (by decide) ?_
          refine l_iadd dL_law_1341 ?_
          refine l_sld dL_law_1342 hw.1 ?_
          have hw := hw.2
          refine l_aload_n dL_law_1343 rfl rfl ?_
          refine l_iload_n dL_law_1344 rfl rfl ?_
          refine l_iconst (v := 2) dL_law_1345 (by decide) ?_
          refine l_iadd dL_law_1346 ?_
          refine l_sld dL_law_1347 hw.1 ?_
          have hw := hw.2
          refine l_callVJ [.int (xs ((x3 + 1)).toNatClampNeg), .int (xs ((x3 + 2)).toNatClampNeg)] (ci := 12) dL_law_1348 ml_L_176 mk_X12_mean rfl rfl sh98 (Nat.le_of_ble_eq_true rfl) (Nat.le_of_ble_eq_true rfl) rfl (c_M_mean hw) (fun r154 h155 hw => ?_)
          refine l_lc_eq 1566 dL_law_1351 dL_law_1352 rfl (fun hc => ?_) (fun hc => ?_)
          · have hw := hw.1 hc
            exact hJ1566 _ hw
          · have hw := hw.2 hc
            refine l_iconst (v := 0) dL_law_1355 (by decide) ?_
            exact False.elim hw
        | 38, _, hc =>
          have hc : v1 = 38 := tsw_eq hc (by decide)
          have hw := hw.2.2.2.2.2.2.2.2.2.2.2.2.2.2.2.2.2.2.2.2.2.2.2.2.2.2.2.2.2.2.2.2.2.2.2.2.2.2.2.1 hc
          refine l_tswI 38 1357 dL_law_33 hc (by decide) (by decide) (off := 1324) (by decide) rfl ?_
          refine l_aload_n dL_law_1357 rfl rfl ?_
          refine l_aload_n dL_law_1358 rfl rfl ?_
          refine l_iload_n dL_law_1359 rfl rfl ?_
          refine l_iconst (v := 1) dL_law_1360 (by decide) ?_
          refine l_iadd dL_law_1361 ?_
          refine l_sld dL_law_1362 hw.1 ?_
          have hw := hw.2
          refine l_aload_n dL_law_1363 rfl rfl ?_
          refine l_iload_n dL_law_1364 rfl rfl ?_
          refine l_iconst (v := 2) dL_law_1365 (by decide) ?_
          refine l_iadd dL_law_1366 ?_
          refine l_sld dL_law_1367 hw.1 ?_
          have hw := hw.2
          refine l_aload_n dL_law_1368 rfl rfl ?_
          refine l_iload_n dL_law_1369 rfl rfl ?_
          refine l_iconst (v := 3) dL_law_1370 (by decide) ?_
          refine l_iadd dL_law_1371 ?_
          refine l_sld dL_law_1372 hw.1 ?_
          have hw := hw.2
          refine l_callVI [.int (xs ((x3 + 1)).toNatClampNeg), .int (xs ((x3 + 2)).toNatClampNeg), .int (xs ((x3 + 3)).toNatClampNeg)] (ci := 11) dL_law_1373 ml_L_177 mk_X11_numbers rfl rfl sh0 (Nat.le_of_ble_eq_true rfl) (Nat.le_of_ble_eq_true rfl) rfl (c_C_numbers hw) (fun r156 h157 hw => ?_)
          refine l_aload_n dL_law_1376 rfl rfl ?_
          refine l_aload_n dL_law_1377 rfl rfl ?_
          refine l_iload_n dL_law_1378 rfl rfl ?_
          refine l_iconst (v := 1) dL_law_1379 (by decide) ?_
          refine l_iadd dL_law_1380 ?_
          refine l_sld dL_law_1381 hw.1 ?_
          have hw := hw.2
          refine l_aload_n dL_law_1382 rfl rfl ?_
          refine l_iload_n dL_law_1383 rfl rfl ?_
          refine l_iconst (v := 2) dL_law_1384 (by decide) ?_
          refine l_iadd dL_law_1385 ?_
          refine l_sld dL_law_1386 hw.1 ?_
          have hw := hw.2
          refine l_aload_n dL_law_1387 rfl rfl ?_
          refine l_iload_n dL_law_1388 rfl rfl ?_
          refine l_iconst (v := 3) dL_law_1389 (by decide) ?_
          refine l_iadd dL_law_1390 ?_
          refine l_sld dL_law_1391 hw.1 ?_
          have hw := hw.2
          refine l_callVI [.int (xs ((x3 + 1)).toNatClampNeg), .int (xs ((x3 + 2)).toNatClampNeg), .int (xs ((x3 + 3)).toNatClampNeg)] (ci := 12) dL_law_1392 ml_L_180 mk_X12_numbers rfl rfl sh98 (Nat.le_of_ble_eq_true rfl) (Nat.le_of_ble_eq_true rfl) rfl (c_M_numbers hw) (fun r158 h159 hw => ?_)
          refine l_icmp_eq 1566 dL_law_1395 rfl (fun hc => ?_) (fun hc => ?_)
          · have hw := hw.1 hc
            exact hJ1566 _ hw
          · have hw := hw.2 hc
            refine l_iconst (v := 0) dL_law_1398 (by decide) ?_
            exact False.elim hw
        | 39, _, hc =>
          have hc : v1 = 39 := tsw_eq hc (by decide)
          have hw := hw.2.2.2.2.2.2.2.2.2.2.2.2.2.2.2.2.2.2.2.2.2.2.2.2.2.2.2.2.2.2.2.2.2.2.2.2.2.2.2.2.1 hc
          refine l_tswI 39 1400 dL_law_33 hc (by decide) (by decide) (off := 1367) (by decide) rfl ?_
          refine l_aload_n dL_law_1400 rfl rfl ?_
          refine l_aload_n dL_law_1401 rfl rfl ?_
          refine l_iload_n dL_law_1402 rfl rfl ?_
          refine l_iconst (v := 1) dL_law_1403 (by decide) ?_
          refine l_iadd dL_law_1404 ?_
          refine l_sld dL_law_1405 hw.1 ?_
          have hw := hw.2
          refine l_aload_n dL_law_1406 rfl rfl ?_
          refine l_iload_n dL_law_1407 rfl rfl ?_
          refine l_iconst (v := 2) dL_law_1408 (by decide) ?_
          refine l_iadd dL_law_1409 ?_
          refine l_sld dL_law_1410 hw.1 ?_
          have hw := hw.2
          refine l_aload_n dL_law_1411 rfl rfl ?_
          refine l_iload_n dL_law_1412 rfl rfl ?_
          refine l_iconst (v := 3) dL_law_1413 (by decide) ?_
          refine l_iadd dL_law_1414 ?_
          refine l_sld dL_law_1415 hw.1 ?_
          have hw := hw.2
          refine l_i2l dL_law_1416 ?_
          refine l_bipush (v := 32) dL_law_1417 (by decide) ?_
          refine l_lshl dL_law_1419 ?_
          refine l_aload_n dL_law_1420 rfl rfl ?_
          refine l_iload_n dL_law_1421 rfl rfl ?_
          refine l_iconst (v := 4) dL_law_1422 (by decide) ?_
          refine l_iadd dL_law_1423 ?_
          refine l_sld dL_law_1424 hw.1 ?_
          have hw := hw.2
          refine l_i2l dL_law_1425 ?_
          refine l_ldc2 dL_law_1426 kl_L_129 ?_
          refine l_land dL_law_1429 ?_
          refine l_lor dL_law_1430 ?_
          refine l_callVJ [.int (xs ((x3 + 1)).toNatClampNeg), .int (xs ((x3 + 2)).toNatClampNeg), .long (((((xs ((x3 + 3)).toNatClampNeg)).toInt64) <<< (((32 : Int32)).toInt64 &&& 63)) ||| ((((xs ((x3 + 4)).toNatClampNeg)).toInt64) &&& (4294967295 : Int64)))] (ci := 11) dL_law_1431 ml_L_181 mk_X11_write rfl rfl sh0 (Nat.le_of_ble_eq_true rfl) (Nat.le_of_ble_eq_true rfl) rfl (c_C_write hw) (fun r160 h161 hw => ?_)
          refine l_aload_n dL_law_1434 rfl rfl ?_
          refine l_aload_n dL_law_1435 rfl rfl ?_
          refine l_iload_n dL_law_1436 rfl rfl ?_
          refine l_iconst (v := 1) dL_law_1437 (by decide) ?_
          refine l_iadd dL_law_1438 ?_
          refine l_sld dL_law_1439 hw.1 ?_
          have hw := hw.2
          refine l_aload_n dL_law_1440 rfl rfl ?_
          refine l_iload_n dL_law_1441 rfl rfl ?_
          refine l_iconst (v := 2) dL_law_1442 (by decide) ?_
          refine l_iadd dL_law_1443 ?_
          refine l_sld dL_law_1444 hw.1 ?_
          have hw := hw.2
          refine l_aload_n dL_law_1445 rfl rfl ?_
          refine l_iload_n dL_law_1446 rfl rfl ?_
          refine l_iconst (v := 3) dL_law_1447 (by decide) ?_
          refine l_iadd dL_law_1448 ?_
          refine l_sld dL_law_1449 hw.1 ?_
          have hw := hw.2
          refine l_i2l dL_law_1450 ?_
          refine l_bipush (v := 32) dL_law_1451 (by decide) ?_
          refine l_lshl dL_law_1453 ?_
          refine l_aload_n dL_law_1454 rfl rfl ?_
          refine l_iload_n dL_law_1455 rfl rfl ?_
          refine l_iconst (v := 4) dL_law_1456 (by decide) ?_
          refine l_iadd dL_law_1457 ?_
          refine l_sld dL_law_1458 hw.1 ?_
          have hw := hw.2
          refine l_i2l dL_law_1459 ?_
          refine l_ldc2 dL_law_1460 kl_L_129 ?_
          refine l_land dL_law_1463 ?_
          refine l_lor dL_law_1464 ?_
          refine l_callVJ [.int (xs ((x3 + 1)).toNatClampNeg), .int (xs ((x3 + 2)).toNatClampNeg), .long (((((xs ((x3 + 3)).toNatClampNeg)).toInt64) <<< (((32 : Int32)).toInt64 &&& 63)) ||| ((((xs ((x3 + 4)).toNatClampNeg)).toInt64) &&& (4294967295 : Int64)))] (ci := 12) dL_law_1465 ml_L_185 mk_X12_write rfl rfl sh98 (Nat.le_of_ble_eq_true rfl) (Nat.le_of_ble_eq_true rfl) rfl (c_M_write hw) (fun r162 h163 hw => ?_)
          refine l_lc_eq 1566 dL_law_1468 dL_law_1469 rfl (fun hc => ?_) (fun hc => ?_)
          · have hw := hw.1 hc
            exact hJ1566 _ hw
          · have hw := hw.2 hc
            refine l_iconst (v := 0) dL_law_1472 (by decide) ?_
            exact False.elim hw
        | 40, _, hc =>
          have hc : v1 = 40 := tsw_eq hc (by decide)
          have hw := hw.2.2.2.2.2.2.2.2.2.2.2.2.2.2.2.2.2.2.2.2.2.2.2.2.2.2.2.2.2.2.2.2.2.2.2.2.2.2.2.2.2.1 hc
          refine l_tswI 40 1474 dL_law_33 hc (by decide) (by decide) (off := 1441) (by decide) rfl ?_
          refine l_aload_n dL_law_1474 rfl rfl ?_
          refine l_aload_n dL_law_1475 rfl rfl ?_
          refine l_iload_n dL_law_1476 rfl rfl ?_
          refine l_iconst (v := 1) dL_law_1477 (by decide) ?_
          refine l_iadd dL_law_1478 ?_
          refine l_sld dL_law_1479 hw.1 ?_
          have hw := hw.2
          refine l_callVI [.int (xs ((x3 + 1)).toNatClampNeg)] (ci := 11) dL_law_1480 ml_L_186 mk_X11_lists rfl rfl sh0 (Nat.le_of_ble_eq_true rfl) (Nat.le_of_ble_eq_true rfl) rfl (c_C_lists hw) (fun r164 h165 hw => ?_)
          refine l_aload_n dL_law_1483 rfl rfl ?_
          refine l_aload_n dL_law_1484 rfl rfl ?_
          refine l_iload_n dL_law_1485 rfl rfl ?_
          refine l_iconst (v := 1) dL_law_1486 (by decide) ?_
          refine l_iadd dL_law_1487 ?_
          refine l_sld dL_law_1488 hw.1 ?_
          have hw := hw.2
          refine l_callVI [.int (xs ((x3 + 1)).toNatClampNeg)] (ci := 12) dL_law_1489 ml_L_189 mk_X12_lists rfl rfl sh98 (Nat.le_of_ble_eq_true rfl) (Nat.le_of_ble_eq_true rfl) rfl (c_M_lists hw) (fun r166 h167 hw => ?_)
          refine l_icmp_eq 1566 dL_law_1492 rfl (fun hc => ?_) (fun hc => ?_)
          · have hw := hw.1 hc
            exact hJ1566 _ hw
          · have hw := hw.2 hc
            refine l_iconst (v := 0) dL_law_1495 (by decide) ?_
            exact False.elim hw
        | 41, _, hc =>
          have hc : v1 = 41 := tsw_eq hc (by decide)
          have hw := hw.2.2.2.2.2.2.2.2.2.2.2.2.2.2.2.2.2.2.2.2.2.2.2.2.2.2.2.2.2.2.2.2.2.2.2.2.2.2.2.2.2.2.1 hc
          refine l_tswI 41 1497 dL_law_33 hc (by decide) (by decide) (off := 1464) (by decide) rfl ?_
          refine l_aload_n dL_law_1497 rfl rfl ?_
          refine l_aload_n dL_law_1498 rfl rfl ?_
          refine l_iload_n dL_law_1499 rfl rfl ?_
          refine l_iconst (v := 1) dL_law_1500 (by decide) ?_
          refine l_iadd dL_law_1501 ?_
          refine l_sld dL_law_1502 hw.1 ?_
          have hw := hw.2
          refine l_callVI [.int (xs ((x3 + 1)).toNatClampNeg)] (ci := 11) dL_law_1503 ml_L_190 mk_X11_image rfl rfl sh0 (Nat.le_of_ble_eq_true rfl) (Nat.le_of_ble_eq_true rfl) rfl (c_C_image hw) (fun r168 h169 hw => ?_)
          refine l_aload_n dL_law_1506 rfl rfl ?_
          refine l_aload_n dL_law_1507 rfl rfl ?_
          refine l_iload_n dL_law_1508 rfl rfl ?_
          refine l_iconst (v := 1) dL_law_1509 (by decide) ?_
          refine l_iadd dL_law_1510 ?_
          refine l_sld dL_law_1511 hw.1 ?_
          have hw := hw.2
          refine l_callVI [.int (xs ((x3 + 1)).toNatClampNeg)] (ci := 12) dL_law_1512 ml_L_193 mk_X12_image rfl rfl sh98 (Nat.le_of_ble_eq_true rfl) (Nat.le_of_ble_eq_true rfl) rfl (c_M_image hw) (fun r170 h171 hw => ?_)
          refine l_icmp_eq 1566 dL_law_1515 rfl (fun hc => ?_) (fun hc => ?_)
          · have hw := hw.1 hc
            exact hJ1566 _ hw
          · have hw := hw.2 hc
            refine l_iconst (v := 0) dL_law_1518 (by decide) ?_
            exact False.elim hw
        | 42, _, hc =>
          have hc : v1 = 42 := tsw_eq hc (by decide)
          have hw := hw.2.2.2.2.2.2.2.2.2.2.2.2.2.2.2.2.2.2.2.2.2.2.2.2.2.2.2.2.2.2.2.2.2.2.2.2.2.2.2.2.2.2.2.1 hc
          refine l_tswI 42 1520 dL_law_33 hc (by decide) (by decide) (off := 1487) (by decide) rfl ?_
          refine l_aload_n dL_law_1520 rfl rfl ?_
          refine l_aload_n dL_law_1521 rfl rfl ?_
          refine l_iload_n dL_law_1522 rfl rfl ?_
          refine l_iconst (v := 1) dL_law_1523 (by decide) ?_
          refine l_iadd dL_law_1524 ?_
          refine l_sld dL_law_1525 hw.1 ?_
          have hw := hw.2
          refine l_callVI [.int (xs ((x3 + 1)).toNatClampNeg)] (ci := 11) dL_law_1526 ml_L_194 mk_X11_restore rfl rfl sh0 (Nat.le_of_ble_eq_true rfl) (Nat.le_of_ble_eq_true rfl) rfl (c_C_restore hw) (fun r172 h173 hw => ?_)
          refine l_aload_n dL_law_1529 rfl rfl ?_
          refine l_aload_n dL_law_1530 rfl rfl ?_
          refine l_iload_n dL_law_1531 rfl rfl ?_
          refine l_iconst (v := 1) dL_law_1532 (by decide) ?_
          refine l_iadd dL_law_1533 ?_
          refine l_sld dL_law_1534 hw.1 ?_
          have hw := hw.2
          refine l_callVI [.int (xs ((x3 + 1)).toNatClampNeg)] (ci := 12) dL_law_1535 ml_L_197 mk_X12_restore rfl rfl sh98 (Nat.le_of_ble_eq_true rfl) (Nat.le_of_ble_eq_true rfl) rfl (c_M_restore hw) (fun r174 h175 hw => ?_)
          refine l_icmp_eq 1566 dL_law_1538 rfl (fun hc => ?_) (fun hc => ?_)
          · have hw := hw.1 hc
            exact hJ1566 _ hw
          · have hw := hw.2 hc
            refine l_iconst (v := 0) dL_law_1541 (by decide) ?_
            exact False.elim hw
        | 43, _, hc =>
          have hc : v1 = 43 := tsw_eq hc (by decide)
          have hw := hw.2.2.2.2.2.2.2.2.2.2.2.2.2.2.2.2.2.2.2.2.2.2.2.2.2.2.2.2.2.2.2.2.2.2.2.2.2.2.2.2.2.2.2.2 hc
          refine l_tswI 43 1543 dL_law_33 hc (by decide) (by decide) (off := 1510) (by decide) rfl ?_
          refine l_aload_n dL_law_1543 rfl rfl ?_
          refine l_aload_n dL_law_1544 rfl rfl ?_
          refine l_iload_n dL_law_1545 rfl rfl ?_
          refine l_iconst (v := 1) dL_law_1546 (by decide) ?_
          refine l_iadd dL_law_1547 ?_
          refine l_sld dL_law_1548 hw.1 ?_
          have hw := hw.2
          refine l_callVI [.int (xs ((x3 + 1)).toNatClampNeg)] (ci := 11) dL_law_1549 ml_L_198 mk_X11_count rfl rfl sh0 (Nat.le_of_ble_eq_true rfl) (Nat.le_of_ble_eq_true rfl) rfl (c_C_count hw) (fun r176 h177 hw => ?_)
          refine l_aload_n dL_law_1552 rfl rfl ?_
          refine l_aload_n dL_law_1553 rfl rfl ?_
          refine l_iload_n dL_law_1554 rfl rfl ?_
          refine l_iconst (v := 1) dL_law_1555 (by decide) ?_
          refine l_iadd dL_law_1556 ?_
          refine l_sld dL_law_1557 hw.1 ?_
          have hw := hw.2
          refine l_callVI [.int (xs ((x3 + 1)).toNatClampNeg)] (ci := 12) dL_law_1558 ml_L_201 mk_X12_count rfl rfl sh98 (Nat.le_of_ble_eq_true rfl) (Nat.le_of_ble_eq_true rfl) rfl (c_M_count hw) (fun r178 h179 hw => ?_)
          refine l_icmp_eq 1566 dL_law_1561 rfl (fun hc => ?_) (fun hc => ?_)
          · have hw := hw.1 hc
            exact hJ1566 _ hw
          · have hw := hw.2 hc
            refine l_iconst (v := 0) dL_law_1564 (by decide) ?_
            exact False.elim hw
        | k + 44, hj, _ => exact absurd hj (by omega)
