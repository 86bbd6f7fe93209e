def m_X0_init : Mu := (yX0_init, cX0_init, 1, none, { frames := 2, cells := 2, slots := 16, locals := 44 })
def m_X0_clear : Mu := (yX0_clear, cX0_clear, 3, none, { frames := 1, cells := 0, slots := 0, locals := 22 })
def m_X0_copyFrom : Mu := (yX0_copyFrom, cX0_copyFrom, 2, none, { frames := 1, cells := 0, slots := 0, locals := 22 })
def m_X0_isCovered : Mu := (yX0_isCovered, cX0_isCovered, 2, (some .boolean), { frames := 0, cells := 0, slots := 0, locals := 0 })
def m_X0_canCut : Mu := (yX0_canCut, cX0_canCut, 3, (some .boolean), { frames := 2, cells := 0, slots := 0, locals := 45 })
def m_X0_cutFor : Mu := (yX0_cutFor, cX0_cutFor, 4, (some .int), { frames := 2, cells := 0, slots := 0, locals := 45 })
def m_X0_lengthOver : Mu := (yX0_lengthOver, cX0_lengthOver, 4, (some .int), { frames := 1, cells := 0, slots := 0, locals := 21 })
def m_X0_isSeamAt : Mu := (yX0_isSeamAt, cX0_isSeamAt, 4, (some .boolean), { frames := 2, cells := 0, slots := 0, locals := 44 })
def m_X0_hasRestFor : Mu := (yX0_hasRestFor, cX0_hasRestFor, 7, (some .boolean), { frames := 2, cells := 0, slots := 0, locals := 45 })
def m_X0_areaOfRests : Mu := (yX0_areaOfRests, cX0_areaOfRests, 6, (some .int), { frames := 2, cells := 0, slots := 0, locals := 45 })
def m_X0_tightness : Mu := (yX0_tightness, cX0_tightness, 2, (some .int), { frames := 1, cells := 0, slots := 0, locals := 21 })
def m_X0_isHooked : Mu := (yX0_isHooked, cX0_isHooked, 2, (some .boolean), { frames := 0, cells := 0, slots := 0, locals := 0 })
def m_X0_isTorn : Mu := (yX0_isTorn, cX0_isTorn, 2, (some .boolean), { frames := 0, cells := 0, slots := 0, locals := 0 })
def m_X0_isFree : Mu := (yX0_isFree, cX0_isFree, 2, (some .boolean), { frames := 1, cells := 0, slots := 0, locals := 21 })
def m_X0_isWaving : Mu := (yX0_isWaving, cX0_isWaving, 2, (some .boolean), { frames := 2, cells := 0, slots := 0, locals := 42 })
def m_X0_tightnessInAll : Mu := (yX0_tightnessInAll, cX0_tightnessInAll, 3, (some .int), { frames := 2, cells := 0, slots := 0, locals := 42 })
def m_X0_tightnessBy : Mu := (yX0_tightnessBy, cX0_tightnessBy, 6, (some .int), { frames := 2, cells := 0, slots := 0, locals := 42 })
def m_X0_leastKick : Mu := (yX0_leastKick, cX0_leastKick, 6, (some .int), { frames := 3, cells := 0, slots := 0, locals := 67 })
def m_X0_hookOn : Mu := (yX0_hookOn, cX0_hookOn, 5, (some .int), { frames := 3, cells := 0, slots := 0, locals := 67 })
def m_X0_unhook : Mu := (yX0_unhook, cX0_unhook, 3, (some .int), { frames := 2, cells := 0, slots := 0, locals := 42 })
def m_X0_passMonth : Mu := (yX0_passMonth, cX0_passMonth, 4, none, { frames := 3, cells := 0, slots := 0, locals := 63 })
def m_X0_monthsToWave : Mu := (yX0_monthsToWave, cX0_monthsToWave, 5, (some .int), { frames := 3, cells := 0, slots := 0, locals := 63 })
def m_X0_takeStep : Mu := (yX0_takeStep, cX0_takeStep, 4, none, { frames := 4, cells := 0, slots := 0, locals := 91 })
def m_X1_init : Mu := (yX1_init, cX1_init, 1, none, { frames := 1, cells := 3, slots := 39, locals := 12 })
def m_X1_make : Mu := (yX1_make, cX1_make, 4, none, { frames := 3, cells := 0, slots := 0, locals := 72 })
def m_X1_choose : Mu := (yX1_choose, cX1_choose, 8, none, { frames := 2, cells := 0, slots := 0, locals := 45 })
def m_X1_isLess : Mu := (yX1_isLess, cX1_isLess, 5, (some .boolean), { frames := 1, cells := 0, slots := 0, locals := 21 })
def m_X1_breadthOf : Mu := (yX1_breadthOf, cX1_breadthOf, 5, (some .int), { frames := 1, cells := 0, slots := 0, locals := 21 })
def m_X2_init : Mu := (yX2_init, cX2_init, 1, none, { frames := 1, cells := 0, slots := 0, locals := 12 })
def m_X2_make : Mu := (yX2_make, cX2_make, 6, none, { frames := 5, cells := 0, slots := 0, locals := 121 })
def m_X2_wallIn : Mu := (yX2_wallIn, cX2_wallIn, 3, (some .int), { frames := 0, cells := 0, slots := 0, locals := 0 })
def m_X2_isOrder : Mu := (yX2_isOrder, cX2_isOrder, 6, (some .boolean), { frames := 2, cells := 0, slots := 0, locals := 42 })
def m_X2_kicksOf : Mu := (yX2_kicksOf, cX2_kicksOf, 10, (some .int), { frames := 4, cells := 0, slots := 0, locals := 92 })
def m_X2_wallAt : Mu := (yX2_wallAt, cX2_wallAt, 2, (some .int), { frames := 1, cells := 0, slots := 0, locals := 22 })
def m_X3_init : Mu := (yX3_init, cX3_init, 1, none, { frames := 1, cells := 5, slots := 51, locals := 20 })
def m_X3_clear : Mu := (yX3_clear, cX3_clear, 1, none, { frames := 0, cells := 0, slots := 0, locals := 0 })
def m_X3_readText : Mu := (yX3_readText, cX3_readText, 6, (some .int), { frames := 4, cells := 0, slots := 0, locals := 91 })
def m_X3_readNumbers : Mu := (yX3_readNumbers, cX3_readNumbers, 8, (some .int), { frames := 3, cells := 0, slots := 0, locals := 64 })
def m_X3_numbersBehind : Mu := (yX3_numbersBehind, cX3_numbersBehind, 1, (some .int), { frames := 0, cells := 0, slots := 0, locals := 0 })
def m_X3_figuresAt : Mu := (yX3_figuresAt, cX3_figuresAt, 3, (some .int), { frames := 2, cells := 0, slots := 0, locals := 42 })
def m_X3_numberAt : Mu := (yX3_numberAt, cX3_numberAt, 6, (some .int), { frames := 1, cells := 0, slots := 0, locals := 22 })
def m_X3_isFigure : Mu := (yX3_isFigure, cX3_isFigure, 1, (some .boolean), { frames := 1, cells := 0, slots := 0, locals := 22 })
def m_X3_letterAt : Mu := (yX3_letterAt, cX3_letterAt, 3, (some .int), { frames := 0, cells := 0, slots := 0, locals := 0 })
def m_X3_takeItem : Mu := (yX3_takeItem, cX3_takeItem, 4, (some .boolean), { frames := 2, cells := 0, slots := 0, locals := 45 })
def m_X3_takeStrip : Mu := (yX3_takeStrip, cX3_takeStrip, 4, (some .boolean), { frames := 1, cells := 0, slots := 0, locals := 22 })
def m_X3_takeDamp : Mu := (yX3_takeDamp, cX3_takeDamp, 2, (some .boolean), { frames := 1, cells := 0, slots := 0, locals := 22 })
def m_X3_lengthOfStrip : Mu := (yX3_lengthOfStrip, cX3_lengthOfStrip, 2, (some .int), { frames := 1, cells := 0, slots := 0, locals := 21 })
def m_X3_lightAt : Mu := (yX3_lightAt, cX3_lightAt, 2, (some .int), { frames := 1, cells := 0, slots := 0, locals := 21 })
def m_X3_treadAt : Mu := (yX3_treadAt, cX3_treadAt, 2, (some .int), { frames := 1, cells := 0, slots := 0, locals := 21 })
def m_X3_dampOf : Mu := (yX3_dampOf, cX3_dampOf, 2, (some .int), { frames := 1, cells := 0, slots := 0, locals := 21 })
def m_X3_slackeningIn : Mu := (yX3_slackeningIn, cX3_slackeningIn, 2, (some .int), { frames := 2, cells := 0, slots := 0, locals := 42 })
def m_X3_lengthFor : Mu := (yX3_lengthFor, cX3_lengthFor, 5, (some .int), { frames := 1, cells := 0, slots := 0, locals := 21 })
def m_X4_init : Mu := (yX4_init, cX4_init, 3, none, { frames := 3, cells := 25, slots := 200, locals := 64 })
def m_X4_clear : Mu := (yX4_clear, cX4_clear, 1, none, { frames := 0, cells := 0, slots := 0, locals := 0 })
def m_X4_isFull : Mu := (yX4_isFull, cX4_isFull, 1, (some .boolean), { frames := 0, cells := 0, slots := 0, locals := 0 })
def m_X4_rowAt : Mu := (yX4_rowAt, cX4_rowAt, 2, (some (.object "StretchedCarpet$Carpet")), { frames := 0, cells := 0, slots := 0, locals := 0 })
def m_X4_push : Mu := (yX4_push, cX4_push, 3, none, { frames := 2, cells := 0, slots := 0, locals := 43 })
def m_X4_pop : Mu := (yX4_pop, cX4_pop, 4, (some .boolean), { frames := 2, cells := 0, slots := 0, locals := 43 })
def m_X5_init : Mu := (yX5_init, cX5_init, 1, none, { frames := 1, cells := 2, slots := 12, locals := 20 })
def m_X5_clear : Mu := (yX5_clear, cX5_clear, 1, none, { frames := 0, cells := 0, slots := 0, locals := 0 })
def m_X5_add : Mu := (yX5_add, cX5_add, 3, (some .boolean), { frames := 1, cells := 0, slots := 0, locals := 22 })
def m_X5_kindsFor : Mu := (yX5_kindsFor, cX5_kindsFor, 4, (some .int), { frames := 2, cells := 0, slots := 0, locals := 46 })
def m_X5_givesFor : Mu := (yX5_givesFor, cX5_givesFor, 4, (some .int), { frames := 2, cells := 0, slots := 0, locals := 46 })
def m_X5_explainedBy : Mu := (yX5_explainedBy, cX5_explainedBy, 5, (some .boolean), { frames := 1, cells := 0, slots := 0, locals := 22 })
def m_X6_init : Mu := (yX6_init, cX6_init, 1, none, { frames := 6, cells := 62, slots := 781, locals := 133 })
def m_X6_write : Mu := (yX6_write, cX6_write, 2, (some .int), { frames := 1, cells := 0, slots := 0, locals := 22 })
def m_X6_wipe : Mu := (yX6_wipe, cX6_wipe, 2, (some .int), { frames := 0, cells := 0, slots := 0, locals := 0 })
def m_X6_fault : Mu := (yX6_fault, cX6_fault, 1, (some .int), { frames := 5, cells := 0, slots := 0, locals := 116 })
def m_X6_lay : Mu := (yX6_lay, cX6_lay, 2, (some .int), { frames := 5, cells := 0, slots := 0, locals := 116 })
def m_X6_strip : Mu := (yX6_strip, cX6_strip, 3, (some .int), { frames := 3, cells := 0, slots := 0, locals := 67 })
def m_X6_wall : Mu := (yX6_wall, cX6_wall, 3, (some .int), { frames := 3, cells := 0, slots := 0, locals := 63 })
def m_X6_damp : Mu := (yX6_damp, cX6_damp, 2, (some .int), { frames := 2, cells := 0, slots := 0, locals := 42 })
def m_X6_cut : Mu := (yX6_cut, cX6_cut, 2, (some .int), { frames := 3, cells := 0, slots := 0, locals := 68 })
def m_X6_hook : Mu := (yX6_hook, cX6_hook, 3, (some .int), { frames := 4, cells := 0, slots := 0, locals := 91 })
def m_X6_letGo : Mu := (yX6_letGo, cX6_letGo, 2, (some .int), { frames := 3, cells := 0, slots := 0, locals := 65 })
def m_X6_pass : Mu := (yX6_pass, cX6_pass, 3, (some .int), { frames := 4, cells := 0, slots := 0, locals := 86 })
def m_X6_undo : Mu := (yX6_undo, cX6_undo, 1, (some .int), { frames := 3, cells := 0, slots := 0, locals := 66 })
def m_X6_plan : Mu := (yX6_plan, cX6_plan, 2, (some .int), { frames := 4, cells := 0, slots := 0, locals := 95 })
def m_X6_order : Mu := (yX6_order, cX6_order, 2, (some .int), { frames := 6, cells := 0, slots := 0, locals := 146 })
def m_X6_kickFor : Mu := (yX6_kickFor, cX6_kickFor, 3, (some .int), { frames := 4, cells := 0, slots := 0, locals := 92 })
def m_X6_waves : Mu := (yX6_waves, cX6_waves, 3, (some .int), { frames := 4, cells := 0, slots := 0, locals := 87 })
def m_X6_longest : Mu := (yX6_longest, cX6_longest, 4, (some .int), { frames := 4, cells := 0, slots := 0, locals := 87 })
def m_X6_seen : Mu := (yX6_seen, cX6_seen, 3, (some .int), { frames := 2, cells := 0, slots := 0, locals := 44 })
def m_X6_forget : Mu := (yX6_forget, cX6_forget, 2, (some .int), { frames := 1, cells := 0, slots := 0, locals := 20 })
def m_X6_may : Mu := (yX6_may, cX6_may, 2, (some .int), { frames := 3, cells := 0, slots := 0, locals := 69 })
def m_X6_hall : Mu := (yX6_hall, cX6_hall, 3, (some .int), { frames := 3, cells := 0, slots := 0, locals := 71 })
def m_X6_left : Mu := (yX6_left, cX6_left, 2, (some .int), { frames := 3, cells := 0, slots := 0, locals := 70 })
def m_X6_likely : Mu := (yX6_likely, cX6_likely, 8, (some .int), { frames := 2, cells := 0, slots := 0, locals := 48 })
def m_X6_year : Mu := (yX6_year, cX6_year, 5, (some .int), { frames := 5, cells := 0, slots := 0, locals := 114 })
def m_X6_keep : Mu := (yX6_keep, cX6_keep, 1, (some .int), { frames := 3, cells := 0, slots := 0, locals := 65 })
def m_X6_back : Mu := (yX6_back, cX6_back, 1, (some .int), { frames := 3, cells := 0, slots := 0, locals := 66 })
def m_X6_count : Mu := (yX6_count, cX6_count, 2, (some .int), { frames := 1, cells := 0, slots := 0, locals := 21 })
def m_X6_within : Mu := (yX6_within, cX6_within, 3, (some .boolean), { frames := 0, cells := 0, slots := 0, locals := 0 })
def m_X6_isWall : Mu := (yX6_isWall, cX6_isWall, 1, (some .boolean), { frames := 1, cells := 0, slots := 0, locals := 22 })
def m_X6_at : Mu := (yX6_at, cX6_at, 2, (some .int), { frames := 0, cells := 0, slots := 0, locals := 0 })
def m_X6_put : Mu := (yX6_put, cX6_put, 3, none, { frames := 0, cells := 0, slots := 0, locals := 0 })
def m_X6_copy : Mu := (yX6_copy, cX6_copy, 3, none, { frames := 0, cells := 0, slots := 0, locals := 0 })
def m_X6_power : Mu := (yX6_power, cX6_power, 4, (some .int), { frames := 0, cells := 0, slots := 0, locals := 0 })
def m_X6_commonDivisor : Mu := (yX6_commonDivisor, cX6_commonDivisor, 6, (some .int), { frames := 0, cells := 0, slots := 0, locals := 0 })
def m_X6_waysToWave : Mu := (yX6_waysToWave, cX6_waysToWave, 6, (some .int), { frames := 1, cells := 0, slots := 0, locals := 23 })
def m_X6_draw : Mu := (yX6_draw, cX6_draw, 4, (some .int), { frames := 0, cells := 0, slots := 0, locals := 0 })
def m_X6_slackOf : Mu := (yX6_slackOf, cX6_slackOf, 3, (some .int), { frames := 0, cells := 0, slots := 0, locals := 0 })
def m_X7_init : Mu := (yX7_init, cX7_init, 1, none, { frames := 1, cells := 14, slots := 728, locals := 24 })
def m_X7_addStrip : Mu := (yX7_addStrip, cX7_addStrip, 5, none, { frames := 0, cells := 0, slots := 0, locals := 0 })
def m_X7_in : Mu := (yX7_in, cX7_in, 3, (some .boolean), { frames := 0, cells := 0, slots := 0, locals := 0 })
def m_X7_has : Mu := (yX7_has, cX7_has, 2, (some .boolean), { frames := 0, cells := 0, slots := 0, locals := 0 })
def m_X7_bits : Mu := (yX7_bits, cX7_bits, 3, (some .int), { frames := 0, cells := 0, slots := 0, locals := 0 })
def m_X7_bring : Mu := (yX7_bring, cX7_bring, 6, none, { frames := 0, cells := 0, slots := 0, locals := 0 })
def m_X7_write : Mu := (yX7_write, cX7_write, 2, (some .int), { frames := 1, cells := 0, slots := 0, locals := 22 })
def m_X7_wipe : Mu := (yX7_wipe, cX7_wipe, 2, (some .int), { frames := 0, cells := 0, slots := 0, locals := 0 })
def m_X7_letterAt : Mu := (yX7_letterAt, cX7_letterAt, 2, (some .int), { frames := 0, cells := 0, slots := 0, locals := 0 })
def m_X7_isNumber : Mu := (yX7_isNumber, cX7_isNumber, 5, (some .boolean), { frames := 1, cells := 0, slots := 0, locals := 22 })
def m_X7_isStripItem : Mu := (yX7_isStripItem, cX7_isStripItem, 3, (some .boolean), { frames := 2, cells := 0, slots := 0, locals := 46 })
def m_X7_isDampItem : Mu := (yX7_isDampItem, cX7_isDampItem, 1, (some .boolean), { frames := 2, cells := 0, slots := 0, locals := 46 })
def m_X7_isPair : Mu := (yX7_isPair, cX7_isPair, 7, (some .boolean), { frames := 2, cells := 0, slots := 0, locals := 46 })
def m_X7_isOne : Mu := (yX7_isOne, cX7_isOne, 4, (some .boolean), { frames := 2, cells := 0, slots := 0, locals := 46 })
def m_X7_isItem : Mu := (yX7_isItem, cX7_isItem, 2, (some .boolean), { frames := 3, cells := 0, slots := 0, locals := 72 })
def m_X7_fault : Mu := (yX7_fault, cX7_fault, 2, (some .int), { frames := 4, cells := 0, slots := 0, locals := 93 })
def m_X7_lay : Mu := (yX7_lay, cX7_lay, 2, (some .int), { frames := 5, cells := 0, slots := 0, locals := 114 })
def m_X7_coveredIn : Mu := (yX7_coveredIn, cX7_coveredIn, 3, (some .int), { frames := 0, cells := 0, slots := 0, locals := 0 })
def m_X7_rollIn : Mu := (yX7_rollIn, cX7_rollIn, 4, (some .int), { frames := 0, cells := 0, slots := 0, locals := 0 })
def m_X7_lengthOf : Mu := (yX7_lengthOf, cX7_lengthOf, 4, (some .int), { frames := 0, cells := 0, slots := 0, locals := 0 })
def m_X7_strip : Mu := (yX7_strip, cX7_strip, 5, (some .int), { frames := 1, cells := 0, slots := 0, locals := 23 })
def m_X7_isHooked : Mu := (yX7_isHooked, cX7_isHooked, 2, (some .boolean), { frames := 1, cells := 0, slots := 0, locals := 21 })
def m_X7_wall : Mu := (yX7_wall, cX7_wall, 3, (some .int), { frames := 2, cells := 0, slots := 0, locals := 42 })
def m_X7_dampBy : Mu := (yX7_dampBy, cX7_dampBy, 2, (some .int), { frames := 0, cells := 0, slots := 0, locals := 0 })
def m_X7_damp : Mu := (yX7_damp, cX7_damp, 2, (some .int), { frames := 1, cells := 0, slots := 0, locals := 22 })
def m_X7_note : Mu := (yX7_note, cX7_note, 1, none, { frames := 1, cells := 0, slots := 0, locals := 25 })
def m_X7_longFor : Mu := (yX7_longFor, cX7_longFor, 5, (some .int), { frames := 0, cells := 0, slots := 0, locals := 0 })
def m_X7_cut : Mu := (yX7_cut, cX7_cut, 4, (some .int), { frames := 2, cells := 0, slots := 0, locals := 45 })
def m_X7_givesBy : Mu := (yX7_givesBy, cX7_givesBy, 3, (some .int), { frames := 0, cells := 0, slots := 0, locals := 0 })
def m_X7_tightBy : Mu := (yX7_tightBy, cX7_tightBy, 7, (some .int), { frames := 2, cells := 0, slots := 0, locals := 42 })
def m_X7_isFree : Mu := (yX7_isFree, cX7_isFree, 2, (some .boolean), { frames := 1, cells := 0, slots := 0, locals := 21 })
def m_X7_kick : Mu := (yX7_kick, cX7_kick, 5, none, { frames := 3, cells := 0, slots := 0, locals := 68 })
def m_X7_isCovered : Mu := (yX7_isCovered, cX7_isCovered, 1, (some .boolean), { frames := 1, cells := 0, slots := 0, locals := 22 })
def m_X7_hook : Mu := (yX7_hook, cX7_hook, 3, (some .int), { frames := 4, cells := 0, slots := 0, locals := 92 })
def m_X7_loosen : Mu := (yX7_loosen, cX7_loosen, 2, none, { frames := 0, cells := 0, slots := 0, locals := 0 })
def m_X7_letGo : Mu := (yX7_letGo, cX7_letGo, 3, (some .int), { frames := 2, cells := 0, slots := 0, locals := 45 })
def m_X7_passMonth : Mu := (yX7_passMonth, cX7_passMonth, 4, none, { frames := 1, cells := 0, slots := 0, locals := 21 })
def m_X7_pass : Mu := (yX7_pass, cX7_pass, 3, (some .int), { frames := 2, cells := 0, slots := 0, locals := 45 })
def m_X7_undo : Mu := (yX7_undo, cX7_undo, 1, (some .int), { frames := 1, cells := 0, slots := 0, locals := 25 })
def m_X7_seamAt : Mu := (yX7_seamAt, cX7_seamAt, 2, (some .int), { frames := 0, cells := 0, slots := 0, locals := 0 })
def m_X7_covers : Mu := (yX7_covers, cX7_covers, 7, (some .boolean), { frames := 1, cells := 0, slots := 0, locals := 25 })
def m_X7_isBefore : Mu := (yX7_isBefore, cX7_isBefore, 3, (some .boolean), { frames := 0, cells := 0, slots := 0, locals := 0 })
def m_X7_layPlan : Mu := (yX7_layPlan, cX7_layPlan, 8, none, { frames := 2, cells := 0, slots := 0, locals := 51 })
def m_X7_plan : Mu := (yX7_plan, cX7_plan, 2, (some .int), { frames := 3, cells := 0, slots := 0, locals := 78 })
def m_X7_begin : Mu := (yX7_begin, cX7_begin, 1, none, { frames := 1, cells := 0, slots := 0, locals := 25 })
def m_X7_leastKick : Mu := (yX7_leastKick, cX7_leastKick, 6, (some .int), { frames := 3, cells := 0, slots := 0, locals := 68 })
def m_X7_layOrder : Mu := (yX7_layOrder, cX7_layOrder, 8, none, { frames := 5, cells := 0, slots := 0, locals := 117 })
def m_X7_kicks : Mu := (yX7_kicks, cX7_kicks, 5, (some .int), { frames := 4, cells := 0, slots := 0, locals := 93 })
def m_X7_order : Mu := (yX7_order, cX7_order, 2, (some .int), { frames := 6, cells := 0, slots := 0, locals := 144 })
def m_X7_kickFor : Mu := (yX7_kickFor, cX7_kickFor, 3, (some .int), { frames := 4, cells := 0, slots := 0, locals := 93 })
def m_X7_wavesAt : Mu := (yX7_wavesAt, cX7_wavesAt, 3, (some .int), { frames := 2, cells := 0, slots := 0, locals := 45 })
def m_X7_waves : Mu := (yX7_waves, cX7_waves, 4, (some .int), { frames := 3, cells := 0, slots := 0, locals := 67 })
def m_X7_longest : Mu := (yX7_longest, cX7_longest, 5, (some .int), { frames := 3, cells := 0, slots := 0, locals := 67 })
def m_X7_seen : Mu := (yX7_seen, cX7_seen, 3, (some .int), { frames := 1, cells := 0, slots := 0, locals := 22 })
def m_X7_forget : Mu := (yX7_forget, cX7_forget, 2, (some .int), { frames := 0, cells := 0, slots := 0, locals := 0 })
def m_X7_isSo : Mu := (yX7_isSo, cX7_isSo, 6, (some .boolean), { frames := 1, cells := 0, slots := 0, locals := 22 })
def m_X7_may : Mu := (yX7_may, cX7_may, 5, (some .int), { frames := 2, cells := 0, slots := 0, locals := 47 })
def m_X7_hall : Mu := (yX7_hall, cX7_hall, 4, (some .int), { frames := 1, cells := 0, slots := 0, locals := 23 })
def m_X7_left : Mu := (yX7_left, cX7_left, 4, (some .int), { frames := 1, cells := 0, slots := 0, locals := 23 })
def m_X7_likely : Mu := (yX7_likely, cX7_likely, 11, (some .int), { frames := 2, cells := 0, slots := 0, locals := 42 })
def m_X7_year : Mu := (yX7_year, cX7_year, 9, (some .int), { frames := 4, cells := 0, slots := 0, locals := 92 })
def m_X7_keep : Mu := (yX7_keep, cX7_keep, 1, (some .int), { frames := 1, cells := 0, slots := 0, locals := 25 })
def m_X7_back : Mu := (yX7_back, cX7_back, 1, (some .int), { frames := 1, cells := 0, slots := 0, locals := 25 })
def m_X7_count : Mu := (yX7_count, cX7_count, 2, (some .int), { frames := 1, cells := 0, slots := 0, locals := 23 })
def m_J6_bitCount_0f7a4 : Mu := (yJ6_bitCount_0f7a4, cJ6_bitCount_0f7a4, 1, (some .int), { frames := 0, cells := 0, slots := 0, locals := 0 })
def m_L_law : Mu := (yL_law, cL_law, 4, some .boolean, room_1)
def m_X4_initB : Mu := (yX4_init, cX4_init, 3, none, { frames := 3, cells := 7, slots := 50, locals := 64 })
theorem cw_X0 : CW RX0 TX0 8 tyX0 := ⟨fun w hw => List.mem_filter.mpr ⟨(by decide +kernel : ∀ w ∈ u_ws RX0 TX0 8, w ∈ lw_tbl) w hw, (by decide +kernel : ∀ w ∈ u_ws RX0 TX0 8, goodWord w = true) w hw⟩, tyX0_ok, nmX0⟩
theorem cn_X0 : CN RX0 8 0 TX0 tyX0 := ⟨rfl, cw_X0, rfl, tb_127, tb_42, by decide +kernel⟩
theorem cw_X1 : CW RX1 TX1 8 tyX1 := ⟨fun w hw => List.mem_filter.mpr ⟨(by decide +kernel : ∀ w ∈ u_ws RX1 TX1 8, w ∈ lw_tbl) w hw, (by decide +kernel : ∀ w ∈ u_ws RX1 TX1 8, goodWord w = true) w hw⟩, tyX1_ok, nmX1⟩
theorem cn_X1 : CN RX1 8 1 TX1 tyX1 := ⟨rfl, cw_X1, rfl, tb_217, tb_46, by decide +kernel⟩
theorem cw_X2 : CW RX2 TX2 3 tyX2 := ⟨fun w hw => List.mem_filter.mpr ⟨(by decide +kernel : ∀ w ∈ u_ws RX2 TX2 3, w ∈ lw_tbl) w hw, (by decide +kernel : ∀ w ∈ u_ws RX2 TX2 3, goodWord w = true) w hw⟩, tyX2_ok, nmX2⟩
theorem cn_X2 : CN RX2 3 2 TX2 tyX2 := ⟨rfl, cw_X2, rfl, tb_251, tb_47, by decide +kernel⟩
theorem cw_X3 : CW RX3 TX3 13 tyX3 := ⟨fun w hw => List.mem_filter.mpr ⟨(by decide +kernel : ∀ w ∈ u_ws RX3 TX3 13, w ∈ lw_tbl) w hw, (by decide +kernel : ∀ w ∈ u_ws RX3 TX3 13, goodWord w = true) w hw⟩, tyX3_ok, nmX3⟩
theorem cn_X3 : CN RX3 13 3 TX3 tyX3 := ⟨rfl, cw_X3, rfl, tb_63, tb_41, by decide +kernel⟩
theorem cw_X4 : CW RX4 TX4 3 tyX4 := ⟨fun w hw => List.mem_filter.mpr ⟨(by decide +kernel : ∀ w ∈ u_ws RX4 TX4 3, w ∈ lw_tbl) w hw, (by decide +kernel : ∀ w ∈ u_ws RX4 TX4 3, goodWord w = true) w hw⟩, tyX4_ok, nmX4⟩
theorem cn_X4 : CN RX4 3 4 TX4 tyX4 := ⟨rfl, cw_X4, rfl, tb_173, tb_43, by decide +kernel⟩
theorem cw_X5 : CW RX5 TX5 3 tyX5 := ⟨fun w hw => List.mem_filter.mpr ⟨(by decide +kernel : ∀ w ∈ u_ws RX5 TX5 3, w ∈ lw_tbl) w hw, (by decide +kernel : ∀ w ∈ u_ws RX5 TX5 3, goodWord w = true) w hw⟩, tyX5_ok, nmX5⟩
theorem cn_X5 : CN RX5 3 5 TX5 tyX5 := ⟨rfl, cw_X5, rfl, tb_196, tb_45, by decide +kernel⟩
theorem cw_X6 : CW RX6 TX6 11 tyX6 := ⟨fun w hw => List.mem_filter.mpr ⟨(by decide +kernel : ∀ w ∈ u_ws RX6 TX6 11, w ∈ lw_tbl) w hw, (by decide +kernel : ∀ w ∈ u_ws RX6 TX6 11, goodWord w = true) w hw⟩, tyX6_ok, nmX6⟩
theorem cn_X6 : CN RX6 11 6 TX6 tyX6 := ⟨rfl, cw_X6, rfl, tb_55, tb_40, by decide +kernel⟩
theorem cw_X7 : CW RX7 TX7 27 tyX7 := ⟨fun w hw => List.mem_filter.mpr ⟨(by decide +kernel : ∀ w ∈ u_ws RX7 TX7 27, w ∈ lw_tbl) w hw, (by decide +kernel : ∀ w ∈ u_ws RX7 TX7 27, goodWord w = true) w hw⟩, tyX7_ok, nmX7⟩
theorem cn_X7 : CN RX7 27 7 TX7 tyX7 := ⟨rfl, cw_X7, rfl, tb_754, tb_52, by decide +kernel⟩
theorem fl_RX6_9 : FL RX6 9 6 0 true "[C" := ⟨RX6, TX6, 11, tyX6, rfl, by decide, cw_X6, rfl, rfl, rfl, rfl, Or.inl tb_364⟩
theorem fl_RX6_16 : FL RX6 16 6 2 false "LStretchedCarpet$Room;" := ⟨RX6, TX6, 11, tyX6, rfl, by decide, cw_X6, rfl, rfl, rfl, rfl, Or.inl tb_366⟩
theorem fl_RX6_20 : FL RX6 20 6 3 false "LStretchedCarpet$Room;" := ⟨RX6, TX6, 11, tyX6, rfl, by decide, cw_X6, rfl, rfl, rfl, rfl, Or.inl tb_367⟩
theorem fl_RX6_26 : FL RX6 26 6 4 true "LStretchedCarpet$Carpet;" := ⟨RX6, TX6, 11, tyX6, rfl, by decide, cw_X6, rfl, rfl, rfl, rfl, Or.inl tb_368⟩
theorem fl_RX6_30 : FL RX6 30 6 5 true "LStretchedCarpet$Carpet;" := ⟨RX6, TX6, 11, tyX6, rfl, by decide, cw_X6, rfl, rfl, rfl, rfl, Or.inl tb_369⟩
theorem fl_RX6_38 : FL RX6 38 6 6 true "LStretchedCarpet$Shelf;" := ⟨RX6, TX6, 11, tyX6, rfl, by decide, cw_X6, rfl, rfl, rfl, rfl, Or.inl tb_370⟩
theorem fl_RX6_42 : FL RX6 42 6 7 true "LStretchedCarpet$Shelf;" := ⟨RX6, TX6, 11, tyX6, rfl, by decide, cw_X6, rfl, rfl, rfl, rfl, Or.inl tb_371⟩
theorem fl_RX6_48 : FL RX6 48 6 8 true "LStretchedCarpet$Sightings;" := ⟨RX6, TX6, 11, tyX6, rfl, by decide, cw_X6, rfl, rfl, rfl, rfl, Or.inl tb_372⟩
theorem fl_RX6_55 : FL RX6 55 6 9 true "LStretchedCarpet$CutPlan;" := ⟨RX6, TX6, 11, tyX6, rfl, by decide, cw_X6, rfl, rfl, rfl, rfl, Or.inl tb_373⟩
theorem fl_RX6_62 : FL RX6 62 6 10 true "LStretchedCarpet$HookOrder;" := ⟨RX6, TX6, 11, tyX6, rfl, by decide, cw_X6, rfl, rfl, rfl, rfl, Or.inl tb_374⟩
theorem fl_RX6_82 : FL RX6 82 3 8 false "I" := ⟨RX3, TX3, 13, tyX3, rfl, by decide, cw_X3, rfl, rfl, rfl, rfl, Or.inr ⟨Or.inl rfl, "StretchedCarpet", tb_86⟩⟩
theorem fl_RX6_93 : FL RX6 93 6 1 false "I" := ⟨RX6, TX6, 11, tyX6, rfl, by decide, cw_X6, rfl, rfl, rfl, rfl, Or.inl tb_365⟩
theorem fl_RX6_96 : FL RX6 96 3 5 false "I" := ⟨RX3, TX3, 13, tyX3, rfl, by decide, cw_X3, rfl, rfl, rfl, rfl, Or.inr ⟨Or.inl rfl, "StretchedCarpet", tb_80⟩⟩
theorem fl_RX6_163 : FL RX6 163 0 7 false "I" := ⟨RX0, TX0, 8, tyX0, rfl, by decide, cw_X0, rfl, rfl, rfl, rfl, Or.inr ⟨Or.inl rfl, "StretchedCarpet", tb_154⟩⟩
theorem fl_RX6_174 : FL RX6 174 4 2 false "I" := ⟨RX4, TX4, 3, tyX4, rfl, by decide, cw_X4, rfl, rfl, rfl, rfl, Or.inr ⟨Or.inl rfl, "StretchedCarpet", tb_187⟩⟩
theorem fl_RX6_181 : FL RX6 181 1 5 false "Z" := ⟨RX1, TX1, 8, tyX1, rfl, by decide, cw_X1, rfl, rfl, rfl, rfl, Or.inr ⟨Or.inl rfl, "StretchedCarpet", tb_228⟩⟩
theorem fl_RX6_185 : FL RX6 185 1 6 false "I" := ⟨RX1, TX1, 8, tyX1, rfl, by decide, cw_X1, rfl, rfl, rfl, rfl, Or.inr ⟨Or.inl rfl, "StretchedCarpet", tb_230⟩⟩
theorem fl_RX6_188 : FL RX6 188 1 7 false "I" := ⟨RX1, TX1, 8, tyX1, rfl, by decide, cw_X1, rfl, rfl, rfl, rfl, Or.inr ⟨Or.inl rfl, "StretchedCarpet", tb_232⟩⟩
theorem fl_RX6_197 : FL RX6 197 2 2 false "I" := ⟨RX2, TX2, 3, tyX2, rfl, by decide, cw_X2, rfl, rfl, rfl, rfl, Or.inr ⟨Or.inl rfl, "StretchedCarpet", tb_259⟩⟩
theorem fl_RX6_219 : FL RX6 219 5 2 false "I" := ⟨RX5, TX5, 3, tyX5, rfl, by decide, cw_X5, rfl, rfl, rfl, rfl, Or.inr ⟨Or.inl rfl, "StretchedCarpet", tb_208⟩⟩
theorem fl_RX6_220 : FL RX6 220 3 12 false "I" := ⟨RX3, TX3, 13, tyX3, rfl, by decide, cw_X3, rfl, rfl, rfl, rfl, Or.inr ⟨Or.inl rfl, "StretchedCarpet", tb_96⟩⟩
theorem fl_RX6_226 : FL RX6 226 3 11 false "I" := ⟨RX3, TX3, 13, tyX3, rfl, by decide, cw_X3, rfl, rfl, rfl, rfl, Or.inr ⟨Or.inl rfl, "StretchedCarpet", tb_93⟩⟩
theorem fl_RX6_236 : FL RX6 236 3 7 false "I" := ⟨RX3, TX3, 13, tyX3, rfl, by decide, cw_X3, rfl, rfl, rfl, rfl, Or.inr ⟨Or.inl rfl, "StretchedCarpet", tb_85⟩⟩
theorem fl_RX6_239 : FL RX6 239 0 4 false "I" := ⟨RX0, TX0, 8, tyX0, rfl, by decide, cw_X0, rfl, rfl, rfl, rfl, Or.inr ⟨Or.inl rfl, "StretchedCarpet", tb_147⟩⟩
theorem fl_RX6_266 : FL RX6 266 0 6 false "I" := ⟨RX0, TX0, 8, tyX0, rfl, by decide, cw_X0, rfl, rfl, rfl, rfl, Or.inr ⟨Or.inl rfl, "StretchedCarpet", tb_152⟩⟩
theorem fl_RX6_281 : FL RX6 281 0 2 false "I" := ⟨RX0, TX0, 8, tyX0, rfl, by decide, cw_X0, rfl, rfl, rfl, rfl, Or.inr ⟨Or.inl rfl, "StretchedCarpet", tb_142⟩⟩
theorem fl_RX6_287 : FL RX6 287 0 5 false "I" := ⟨RX0, TX0, 8, tyX0, rfl, by decide, cw_X0, rfl, rfl, rfl, rfl, Or.inr ⟨Or.inl rfl, "StretchedCarpet", tb_150⟩⟩
theorem fl_RX0_9 : FL RX0 9 0 0 true "[I" := ⟨RX0, TX0, 8, tyX0, rfl, by decide, cw_X0, rfl, rfl, rfl, rfl, Or.inl tb_139⟩
theorem fl_RX0_15 : FL RX0 15 0 1 true "[I" := ⟨RX0, TX0, 8, tyX0, rfl, by decide, cw_X0, rfl, rfl, rfl, rfl, Or.inl tb_140⟩
theorem fl_RX0_26 : FL RX0 26 0 2 false "I" := ⟨RX0, TX0, 8, tyX0, rfl, by decide, cw_X0, rfl, rfl, rfl, rfl, Or.inl tb_141⟩
theorem fl_RX0_30 : FL RX0 30 0 3 false "I" := ⟨RX0, TX0, 8, tyX0, rfl, by decide, cw_X0, rfl, rfl, rfl, rfl, Or.inl tb_144⟩
theorem fl_RX0_33 : FL RX0 33 0 4 false "I" := ⟨RX0, TX0, 8, tyX0, rfl, by decide, cw_X0, rfl, rfl, rfl, rfl, Or.inl tb_145⟩
theorem fl_RX0_36 : FL RX0 36 0 5 false "I" := ⟨RX0, TX0, 8, tyX0, rfl, by decide, cw_X0, rfl, rfl, rfl, rfl, Or.inl tb_148⟩
theorem fl_RX0_39 : FL RX0 39 0 6 false "I" := ⟨RX0, TX0, 8, tyX0, rfl, by decide, cw_X0, rfl, rfl, rfl, rfl, Or.inl tb_151⟩
theorem fl_RX0_42 : FL RX0 42 0 7 false "I" := ⟨RX0, TX0, 8, tyX0, rfl, by decide, cw_X0, rfl, rfl, rfl, rfl, Or.inl tb_153⟩
theorem fl_RX0_49 : FL RX0 49 3 5 false "I" := ⟨RX3, TX3, 13, tyX3, rfl, by decide, cw_X3, rfl, rfl, rfl, rfl, Or.inr ⟨Or.inl rfl, "StretchedCarpet", tb_79⟩⟩
theorem fl_RX0_54 : FL RX0 54 3 7 false "I" := ⟨RX3, TX3, 13, tyX3, rfl, by decide, cw_X3, rfl, rfl, rfl, rfl, Or.inr ⟨Or.inl rfl, "StretchedCarpet", tb_84⟩⟩
theorem fl_RX0_79 : FL RX0 79 3 11 false "I" := ⟨RX3, TX3, 13, tyX3, rfl, by decide, cw_X3, rfl, rfl, rfl, rfl, Or.inr ⟨Or.inl rfl, "StretchedCarpet", tb_92⟩⟩
theorem fl_RX0_82 : FL RX0 82 3 12 false "I" := ⟨RX3, TX3, 13, tyX3, rfl, by decide, cw_X3, rfl, rfl, rfl, rfl, Or.inr ⟨Or.inl rfl, "StretchedCarpet", tb_95⟩⟩
theorem fl_RX0_103 : FL RX0 103 3 10 false "I" := ⟨RX3, TX3, 13, tyX3, rfl, by decide, cw_X3, rfl, rfl, rfl, rfl, Or.inr ⟨Or.inl rfl, "StretchedCarpet", tb_90⟩⟩
theorem fl_RX1_9 : FL RX1 9 1 0 true "[I" := ⟨RX1, TX1, 8, tyX1, rfl, by decide, cw_X1, rfl, rfl, rfl, rfl, Or.inl tb_222⟩
theorem fl_RX1_15 : FL RX1 15 1 1 true "[I" := ⟨RX1, TX1, 8, tyX1, rfl, by decide, cw_X1, rfl, rfl, rfl, rfl, Or.inl tb_223⟩
theorem fl_RX1_18 : FL RX1 18 1 2 true "[I" := ⟨RX1, TX1, 8, tyX1, rfl, by decide, cw_X1, rfl, rfl, rfl, rfl, Or.inl tb_224⟩
theorem fl_RX1_21 : FL RX1 21 1 5 false "Z" := ⟨RX1, TX1, 8, tyX1, rfl, by decide, cw_X1, rfl, rfl, rfl, rfl, Or.inl tb_227⟩
theorem fl_RX1_25 : FL RX1 25 0 3 false "I" := ⟨RX0, TX0, 8, tyX0, rfl, by decide, cw_X0, rfl, rfl, rfl, rfl, Or.inr ⟨Or.inl rfl, "StretchedCarpet", tb_143⟩⟩
theorem fl_RX1_31 : FL RX1 31 1 3 false "I" := ⟨RX1, TX1, 8, tyX1, rfl, by decide, cw_X1, rfl, rfl, rfl, rfl, Or.inl tb_225⟩
theorem fl_RX1_34 : FL RX1 34 3 5 false "I" := ⟨RX3, TX3, 13, tyX3, rfl, by decide, cw_X3, rfl, rfl, rfl, rfl, Or.inr ⟨Or.inl rfl, "StretchedCarpet", tb_78⟩⟩
theorem fl_RX1_39 : FL RX1 39 1 4 false "I" := ⟨RX1, TX1, 8, tyX1, rfl, by decide, cw_X1, rfl, rfl, rfl, rfl, Or.inl tb_226⟩
theorem fl_RX1_54 : FL RX1 54 1 6 false "I" := ⟨RX1, TX1, 8, tyX1, rfl, by decide, cw_X1, rfl, rfl, rfl, rfl, Or.inl tb_229⟩
theorem fl_RX1_57 : FL RX1 57 1 7 false "I" := ⟨RX1, TX1, 8, tyX1, rfl, by decide, cw_X1, rfl, rfl, rfl, rfl, Or.inl tb_231⟩
theorem fl_RX1_60 : FL RX1 60 0 4 false "I" := ⟨RX0, TX0, 8, tyX0, rfl, by decide, cw_X0, rfl, rfl, rfl, rfl, Or.inr ⟨Or.inl rfl, "StretchedCarpet", tb_146⟩⟩
theorem fl_RX1_70 : FL RX1 70 3 7 false "I" := ⟨RX3, TX3, 13, tyX3, rfl, by decide, cw_X3, rfl, rfl, rfl, rfl, Or.inr ⟨Or.inl rfl, "StretchedCarpet", tb_83⟩⟩
theorem fl_RX2_9 : FL RX2 9 2 2 false "I" := ⟨RX2, TX2, 3, tyX2, rfl, by decide, cw_X2, rfl, rfl, rfl, rfl, Or.inl tb_258⟩
theorem fl_RX2_15 : FL RX2 15 2 0 false "I" := ⟨RX2, TX2, 3, tyX2, rfl, by decide, cw_X2, rfl, rfl, rfl, rfl, Or.inl tb_256⟩
theorem fl_RX2_32 : FL RX2 32 2 1 false "I" := ⟨RX2, TX2, 3, tyX2, rfl, by decide, cw_X2, rfl, rfl, rfl, rfl, Or.inl tb_257⟩
theorem fl_RX2_43 : FL RX2 43 0 5 false "I" := ⟨RX0, TX0, 8, tyX0, rfl, by decide, cw_X0, rfl, rfl, rfl, rfl, Or.inr ⟨Or.inl rfl, "StretchedCarpet", tb_149⟩⟩
theorem fl_RX3_9 : FL RX3 9 3 0 true "[I" := ⟨RX3, TX3, 13, tyX3, rfl, by decide, cw_X3, rfl, rfl, rfl, rfl, Or.inl tb_72⟩
theorem fl_RX3_15 : FL RX3 15 3 1 true "[I" := ⟨RX3, TX3, 13, tyX3, rfl, by decide, cw_X3, rfl, rfl, rfl, rfl, Or.inl tb_73⟩
theorem fl_RX3_18 : FL RX3 18 3 2 true "[I" := ⟨RX3, TX3, 13, tyX3, rfl, by decide, cw_X3, rfl, rfl, rfl, rfl, Or.inl tb_74⟩
theorem fl_RX3_21 : FL RX3 21 3 3 true "[I" := ⟨RX3, TX3, 13, tyX3, rfl, by decide, cw_X3, rfl, rfl, rfl, rfl, Or.inl tb_75⟩
theorem fl_RX3_24 : FL RX3 24 3 4 true "[I" := ⟨RX3, TX3, 13, tyX3, rfl, by decide, cw_X3, rfl, rfl, rfl, rfl, Or.inl tb_76⟩
theorem fl_RX3_30 : FL RX3 30 3 5 false "I" := ⟨RX3, TX3, 13, tyX3, rfl, by decide, cw_X3, rfl, rfl, rfl, rfl, Or.inl tb_77⟩
theorem fl_RX3_34 : FL RX3 34 3 6 false "I" := ⟨RX3, TX3, 13, tyX3, rfl, by decide, cw_X3, rfl, rfl, rfl, rfl, Or.inl tb_81⟩
theorem fl_RX3_37 : FL RX3 37 3 7 false "I" := ⟨RX3, TX3, 13, tyX3, rfl, by decide, cw_X3, rfl, rfl, rfl, rfl, Or.inl tb_82⟩
theorem fl_RX3_40 : FL RX3 40 3 8 false "I" := ⟨RX3, TX3, 13, tyX3, rfl, by decide, cw_X3, rfl, rfl, rfl, rfl, Or.inl tb_87⟩
theorem fl_RX3_43 : FL RX3 43 3 9 false "I" := ⟨RX3, TX3, 13, tyX3, rfl, by decide, cw_X3, rfl, rfl, rfl, rfl, Or.inl tb_88⟩
theorem fl_RX3_46 : FL RX3 46 3 10 false "I" := ⟨RX3, TX3, 13, tyX3, rfl, by decide, cw_X3, rfl, rfl, rfl, rfl, Or.inl tb_89⟩
theorem fl_RX3_49 : FL RX3 49 3 11 false "I" := ⟨RX3, TX3, 13, tyX3, rfl, by decide, cw_X3, rfl, rfl, rfl, rfl, Or.inl tb_91⟩
theorem fl_RX3_52 : FL RX3 52 3 12 false "I" := ⟨RX3, TX3, 13, tyX3, rfl, by decide, cw_X3, rfl, rfl, rfl, rfl, Or.inl tb_94⟩
theorem fl_RX4_15 : FL RX4 15 4 0 true "[LStretchedCarpet$Carpet;" := ⟨RX4, TX4, 3, tyX4, rfl, by decide, cw_X4, rfl, rfl, rfl, rfl, Or.inl tb_184⟩
theorem fl_RX4_22 : FL RX4 22 4 1 false "I" := ⟨RX4, TX4, 3, tyX4, rfl, by decide, cw_X4, rfl, rfl, rfl, rfl, Or.inl tb_185⟩
theorem fl_RX4_26 : FL RX4 26 4 2 false "I" := ⟨RX4, TX4, 3, tyX4, rfl, by decide, cw_X4, rfl, rfl, rfl, rfl, Or.inl tb_186⟩
theorem fl_RX5_11 : FL RX5 11 5 0 true "[I" := ⟨RX5, TX5, 3, tyX5, rfl, by decide, cw_X5, rfl, rfl, rfl, rfl, Or.inl tb_205⟩
theorem fl_RX5_15 : FL RX5 15 5 1 true "[I" := ⟨RX5, TX5, 3, tyX5, rfl, by decide, cw_X5, rfl, rfl, rfl, rfl, Or.inl tb_206⟩
theorem fl_RX5_21 : FL RX5 21 5 2 false "I" := ⟨RX5, TX5, 3, tyX5, rfl, by decide, cw_X5, rfl, rfl, rfl, rfl, Or.inl tb_207⟩
theorem fl_RX7_7 : FL RX7 7 7 1 true "[I" := ⟨RX7, TX7, 27, tyX7, rfl, by decide, cw_X7, rfl, rfl, rfl, rfl, Or.inl tb_764⟩
theorem fl_RX7_13 : FL RX7 13 7 6 true "[I" := ⟨RX7, TX7, 27, tyX7, rfl, by decide, cw_X7, rfl, rfl, rfl, rfl, Or.inl tb_769⟩
theorem fl_RX7_16 : FL RX7 16 7 7 true "[I" := ⟨RX7, TX7, 27, tyX7, rfl, by decide, cw_X7, rfl, rfl, rfl, rfl, Or.inl tb_770⟩
theorem fl_RX7_19 : FL RX7 19 7 8 true "[I" := ⟨RX7, TX7, 27, tyX7, rfl, by decide, cw_X7, rfl, rfl, rfl, rfl, Or.inl tb_771⟩
theorem fl_RX7_22 : FL RX7 22 7 11 true "[I" := ⟨RX7, TX7, 27, tyX7, rfl, by decide, cw_X7, rfl, rfl, rfl, rfl, Or.inl tb_774⟩
theorem fl_RX7_25 : FL RX7 25 7 12 true "[I" := ⟨RX7, TX7, 27, tyX7, rfl, by decide, cw_X7, rfl, rfl, rfl, rfl, Or.inl tb_775⟩
theorem fl_RX7_28 : FL RX7 28 7 13 true "[I" := ⟨RX7, TX7, 27, tyX7, rfl, by decide, cw_X7, rfl, rfl, rfl, rfl, Or.inl tb_776⟩
theorem fl_RX7_31 : FL RX7 31 7 14 true "[I" := ⟨RX7, TX7, 27, tyX7, rfl, by decide, cw_X7, rfl, rfl, rfl, rfl, Or.inl tb_777⟩
theorem fl_RX7_34 : FL RX7 34 7 15 true "[I" := ⟨RX7, TX7, 27, tyX7, rfl, by decide, cw_X7, rfl, rfl, rfl, rfl, Or.inl tb_778⟩
theorem fl_RX7_37 : FL RX7 37 7 16 true "[I" := ⟨RX7, TX7, 27, tyX7, rfl, by decide, cw_X7, rfl, rfl, rfl, rfl, Or.inl tb_779⟩
theorem fl_RX7_40 : FL RX7 40 7 18 true "[I" := ⟨RX7, TX7, 27, tyX7, rfl, by decide, cw_X7, rfl, rfl, rfl, rfl, Or.inl tb_781⟩
theorem fl_RX7_43 : FL RX7 43 7 21 true "[I" := ⟨RX7, TX7, 27, tyX7, rfl, by decide, cw_X7, rfl, rfl, rfl, rfl, Or.inl tb_784⟩
theorem fl_RX7_46 : FL RX7 46 7 22 true "[I" := ⟨RX7, TX7, 27, tyX7, rfl, by decide, cw_X7, rfl, rfl, rfl, rfl, Or.inl tb_785⟩
theorem fl_RX7_49 : FL RX7 49 7 23 true "[I" := ⟨RX7, TX7, 27, tyX7, rfl, by decide, cw_X7, rfl, rfl, rfl, rfl, Or.inl tb_786⟩
theorem fl_RX7_56 : FL RX7 56 7 9 false "I" := ⟨RX7, TX7, 27, tyX7, rfl, by decide, cw_X7, rfl, rfl, rfl, rfl, Or.inl tb_772⟩
theorem fl_RX7_60 : FL RX7 60 7 10 false "I" := ⟨RX7, TX7, 27, tyX7, rfl, by decide, cw_X7, rfl, rfl, rfl, rfl, Or.inl tb_773⟩
theorem fl_RX7_67 : FL RX7 67 7 0 false "I" := ⟨RX7, TX7, 27, tyX7, rfl, by decide, cw_X7, rfl, rfl, rfl, rfl, Or.inl tb_763⟩
theorem fl_RX7_70 : FL RX7 70 7 3 false "I" := ⟨RX7, TX7, 27, tyX7, rfl, by decide, cw_X7, rfl, rfl, rfl, rfl, Or.inl tb_766⟩
theorem fl_RX7_73 : FL RX7 73 7 2 false "I" := ⟨RX7, TX7, 27, tyX7, rfl, by decide, cw_X7, rfl, rfl, rfl, rfl, Or.inl tb_765⟩
theorem fl_RX7_80 : FL RX7 80 7 4 false "I" := ⟨RX7, TX7, 27, tyX7, rfl, by decide, cw_X7, rfl, rfl, rfl, rfl, Or.inl tb_767⟩
theorem fl_RX7_86 : FL RX7 86 7 5 false "I" := ⟨RX7, TX7, 27, tyX7, rfl, by decide, cw_X7, rfl, rfl, rfl, rfl, Or.inl tb_768⟩
theorem fl_RX7_114 : FL RX7 114 7 20 false "I" := ⟨RX7, TX7, 27, tyX7, rfl, by decide, cw_X7, rfl, rfl, rfl, rfl, Or.inl tb_783⟩
theorem fl_RX7_117 : FL RX7 117 7 17 false "I" := ⟨RX7, TX7, 27, tyX7, rfl, by decide, cw_X7, rfl, rfl, rfl, rfl, Or.inl tb_780⟩
theorem fl_RX7_120 : FL RX7 120 7 19 false "I" := ⟨RX7, TX7, 27, tyX7, rfl, by decide, cw_X7, rfl, rfl, rfl, rfl, Or.inl tb_782⟩
theorem fl_RX7_183 : FL RX7 183 7 25 false "I" := ⟨RX7, TX7, 27, tyX7, rfl, by decide, cw_X7, rfl, rfl, rfl, rfl, Or.inl tb_788⟩
theorem fl_RX7_186 : FL RX7 186 7 26 false "I" := ⟨RX7, TX7, 27, tyX7, rfl, by decide, cw_X7, rfl, rfl, rfl, rfl, Or.inl tb_789⟩
theorem fl_RX7_193 : FL RX7 193 7 24 false "I" := ⟨RX7, TX7, 27, tyX7, rfl, by decide, cw_X7, rfl, rfl, rfl, rfl, Or.inl tb_787⟩
theorem mc_J6_bitCount_0f7a4 : MS m_J6_bitCount_0f7a4 1 := ⟨⟨tb_538, tb_53, by decide +kernel⟩, tb_537⟩
theorem n0_J6_bitCount_0f7a4 : N0 m_J6_bitCount_0f7a4 := ⟨rfl, rfl⟩
theorem mc_X0_areaOfRests : MV m_X0_areaOfRests 1 := ⟨⟨tb_697, tb_42, by decide +kernel⟩, tb_695, tb_696⟩
theorem n0_X0_areaOfRests : N0 m_X0_areaOfRests := ⟨rfl, rfl⟩
theorem mc_X0_canCut : MV m_X0_canCut 2 := ⟨⟨tb_487, tb_42, by decide +kernel⟩, tb_485, tb_486⟩
theorem n0_X0_canCut : N0 m_X0_canCut := ⟨rfl, rfl⟩
theorem mc_X0_clear : MV m_X0_clear 1 := ⟨⟨tb_135, tb_42, by decide +kernel⟩, tb_133, tb_134⟩
theorem n0_X0_clear : N0 m_X0_clear := ⟨rfl, rfl⟩
theorem mc_X0_copyFrom : MV m_X0_copyFrom 1 := ⟨⟨tb_504, tb_42, by decide +kernel⟩, tb_502, tb_503⟩
theorem n0_X0_copyFrom : N0 m_X0_copyFrom := ⟨rfl, rfl⟩
theorem mc_X0_cutFor : MV m_X0_cutFor 2 := ⟨⟨tb_514, tb_42, by decide +kernel⟩, tb_512, tb_513⟩
theorem n0_X0_cutFor : N0 m_X0_cutFor := ⟨rfl, rfl⟩
theorem mc_X0_hasRestFor : MV m_X0_hasRestFor 3 := ⟨⟨tb_689, tb_42, by decide +kernel⟩, tb_687, tb_688⟩
theorem n0_X0_hasRestFor : N0 m_X0_hasRestFor := ⟨rfl, rfl⟩
theorem mc_X0_hookOn : MV m_X0_hookOn 3 := ⟨⟨tb_531, tb_42, by decide +kernel⟩, tb_529, tb_530⟩
theorem n0_X0_hookOn : N0 m_X0_hookOn := ⟨rfl, rfl⟩
theorem mc_X0_init : MI m_X0_init 0 := ⟨⟨tb_130, tb_42, by decide +kernel⟩, tb_129, rfl, rfl⟩
theorem mc_X0_isCovered : MV m_X0_isCovered 1 := ⟨⟨tb_522, tb_42, by decide +kernel⟩, tb_520, tb_521⟩
theorem n0_X0_isCovered : N0 m_X0_isCovered := ⟨rfl, rfl⟩
theorem mc_X0_isFree : MV m_X0_isFree 1 := ⟨⟨tb_526, tb_42, by decide +kernel⟩, tb_524, tb_525⟩
theorem n0_X0_isFree : N0 m_X0_isFree := ⟨rfl, rfl⟩
theorem mc_X0_isHooked : MV m_X0_isHooked 1 := ⟨⟨tb_461, tb_42, by decide +kernel⟩, tb_459, tb_460⟩
theorem n0_X0_isHooked : N0 m_X0_isHooked := ⟨rfl, rfl⟩
theorem mc_X0_isSeamAt : MV m_X0_isSeamAt 1 := ⟨⟨tb_445, tb_42, by decide +kernel⟩, tb_443, tb_444⟩
theorem n0_X0_isSeamAt : N0 m_X0_isSeamAt := ⟨rfl, rfl⟩
theorem mc_X0_isTorn : MV m_X0_isTorn 1 := ⟨⟨tb_465, tb_42, by decide +kernel⟩, tb_463, tb_464⟩
theorem n0_X0_isTorn : N0 m_X0_isTorn := ⟨rfl, rfl⟩
theorem mc_X0_isWaving : MV m_X0_isWaving 1 := ⟨⟨tb_469, tb_42, by decide +kernel⟩, tb_467, tb_468⟩
theorem n0_X0_isWaving : N0 m_X0_isWaving := ⟨rfl, rfl⟩
theorem mc_X0_leastKick : MV m_X0_leastKick 3 := ⟨⟨tb_626, tb_42, by decide +kernel⟩, tb_624, tb_625⟩
theorem n0_X0_leastKick : N0 m_X0_leastKick := ⟨rfl, rfl⟩
theorem mc_X0_lengthOver : MV m_X0_lengthOver 1 := ⟨⟨tb_440, tb_42, by decide +kernel⟩, tb_438, tb_439⟩
theorem n0_X0_lengthOver : N0 m_X0_lengthOver := ⟨rfl, rfl⟩
theorem mc_X0_monthsToWave : MV m_X0_monthsToWave 2 := ⟨⟨tb_644, tb_42, by decide +kernel⟩, tb_642, tb_643⟩
theorem n0_X0_monthsToWave : N0 m_X0_monthsToWave := ⟨rfl, rfl⟩
theorem mc_X0_passMonth : MV m_X0_passMonth 1 := ⟨⟨tb_561, tb_42, by decide +kernel⟩, tb_559, tb_560⟩
theorem n0_X0_passMonth : N0 m_X0_passMonth := ⟨rfl, rfl⟩
theorem mc_X0_takeStep : MV m_X0_takeStep 2 := ⟨⟨tb_727, tb_42, by decide +kernel⟩, tb_725, tb_726⟩
theorem n0_X0_takeStep : N0 m_X0_takeStep := ⟨rfl, rfl⟩
theorem mc_X0_tightness : MV m_X0_tightness 1 := ⟨⟨tb_457, tb_42, by decide +kernel⟩, tb_455, tb_456⟩
theorem n0_X0_tightness : N0 m_X0_tightness := ⟨rfl, rfl⟩
theorem mc_X0_tightnessBy : MV m_X0_tightnessBy 3 := ⟨⟨tb_535, tb_42, by decide +kernel⟩, tb_533, tb_534⟩
theorem n0_X0_tightnessBy : N0 m_X0_tightnessBy := ⟨rfl, rfl⟩
theorem mc_X0_tightnessInAll : MV m_X0_tightnessInAll 0 := ⟨⟨tb_736, tb_42, by decide +kernel⟩, tb_734, tb_735⟩
theorem n0_X0_tightnessInAll : N0 m_X0_tightnessInAll := ⟨rfl, rfl⟩
theorem mc_X0_unhook : MV m_X0_unhook 1 := ⟨⟨tb_553, tb_42, by decide +kernel⟩, tb_551, tb_552⟩
theorem n0_X0_unhook : N0 m_X0_unhook := ⟨rfl, rfl⟩
theorem mc_X1_breadthOf : MV m_X1_breadthOf 1 := ⟨⟨tb_600, tb_46, by decide +kernel⟩, tb_598, tb_599⟩
theorem n0_X1_breadthOf : N0 m_X1_breadthOf := ⟨rfl, rfl⟩
theorem mc_X1_choose : MV m_X1_choose 2 := ⟨⟨tb_587, tb_46, by decide +kernel⟩, tb_586, tp_X1_choose⟩
theorem n0_X1_choose : N0 m_X1_choose := ⟨rfl, rfl⟩
theorem mc_X1_init : MI m_X1_init 0 := ⟨⟨tb_220, tb_46, by decide +kernel⟩, tb_219, rfl, rfl⟩
theorem mc_X1_isLess : MV m_X1_isLess 3 := ⟨⟨tb_596, tb_46, by decide +kernel⟩, tb_595, tp_X1_isLess⟩
theorem n0_X1_isLess : N0 m_X1_isLess := ⟨rfl, rfl⟩
theorem mc_X1_make : MV m_X1_make 2 := ⟨⟨tb_582, tb_46, by decide +kernel⟩, tb_580, tb_581⟩
theorem n0_X1_make : N0 m_X1_make := ⟨rfl, rfl⟩
theorem mc_X2_init : MI m_X2_init 0 := ⟨⟨tb_254, tb_47, by decide +kernel⟩, tb_253, rfl, rfl⟩
theorem n0_X2_init : N0 m_X2_init := ⟨rfl, rfl⟩
theorem mc_X2_isOrder : MV m_X2_isOrder 2 := ⟨⟨tb_613, tb_47, by decide +kernel⟩, tb_612, tp_X2_isOrder⟩
theorem n0_X2_isOrder : N0 m_X2_isOrder := ⟨rfl, rfl⟩
theorem mc_X2_kicksOf : MV m_X2_kicksOf 4 := ⟨⟨tb_621, tb_47, by decide +kernel⟩, tb_620, tp_X2_kicksOf⟩
theorem n0_X2_kicksOf : N0 m_X2_kicksOf := ⟨rfl, rfl⟩
theorem mc_X2_make : MV m_X2_make 3 := ⟨⟨tb_608, tb_47, by decide +kernel⟩, tb_606, tb_607⟩
theorem n0_X2_make : N0 m_X2_make := ⟨rfl, rfl⟩
theorem mc_X2_wallAt : MV m_X2_wallAt 1 := ⟨⟨tb_631, tb_47, by decide +kernel⟩, tb_629, tb_630⟩
theorem n0_X2_wallAt : N0 m_X2_wallAt := ⟨rfl, rfl⟩
theorem mc_X2_wallIn : MV m_X2_wallIn 2 := ⟨⟨tb_617, tb_47, by decide +kernel⟩, tb_616, tp_X2_wallIn⟩
theorem n0_X2_wallIn : N0 m_X2_wallIn := ⟨rfl, rfl⟩
theorem mc_X3_clear : MV m_X3_clear 0 := ⟨⟨tb_71, tb_41, by decide +kernel⟩, tb_70, tp_X3_clear⟩
theorem n0_X3_clear : N0 m_X3_clear := ⟨rfl, rfl⟩
theorem mc_X3_dampOf : MV m_X3_dampOf 1 := ⟨⟨tb_479, tb_41, by decide +kernel⟩, tb_477, tb_478⟩
theorem n0_X3_dampOf : N0 m_X3_dampOf := ⟨rfl, rfl⟩
theorem mc_X3_figuresAt : MS m_X3_figuresAt 3 := ⟨⟨tb_337, tb_41, by decide +kernel⟩, tb_336⟩
theorem n0_X3_figuresAt : N0 m_X3_figuresAt := ⟨rfl, rfl⟩
theorem mc_X3_init : MI m_X3_init 0 := ⟨⟨tb_66, tb_41, by decide +kernel⟩, tb_65, rfl, rfl⟩
theorem mc_X3_isFigure : MS m_X3_isFigure 1 := ⟨⟨tb_340, tb_41, by decide +kernel⟩, tb_339⟩
theorem n0_X3_isFigure : N0 m_X3_isFigure := ⟨rfl, rfl⟩
theorem mc_X3_lengthFor : MV m_X3_lengthFor 2 := ⟨⟨tb_491, tb_41, by decide +kernel⟩, tb_489, tb_490⟩
theorem n0_X3_lengthFor : N0 m_X3_lengthFor := ⟨rfl, rfl⟩
theorem mc_X3_lengthOfStrip : MV m_X3_lengthOfStrip 1 := ⟨⟨tb_428, tb_41, by decide +kernel⟩, tb_426, tb_427⟩
theorem n0_X3_lengthOfStrip : N0 m_X3_lengthOfStrip := ⟨rfl, rfl⟩
theorem mc_X3_letterAt : MS m_X3_letterAt 3 := ⟨⟨tb_331, tb_41, by decide +kernel⟩, tb_330⟩
theorem n0_X3_letterAt : N0 m_X3_letterAt := ⟨rfl, rfl⟩
theorem mc_X3_lightAt : MV m_X3_lightAt 1 := ⟨⟨tb_432, tb_41, by decide +kernel⟩, tb_430, tb_431⟩
theorem n0_X3_lightAt : N0 m_X3_lightAt := ⟨rfl, rfl⟩
theorem mc_X3_numberAt : MS m_X3_numberAt 4 := ⟨⟨tb_346, tb_41, by decide +kernel⟩, tb_345⟩
theorem n0_X3_numberAt : N0 m_X3_numberAt := ⟨rfl, rfl⟩
theorem mc_X3_numbersBehind : MS m_X3_numbersBehind 1 := ⟨⟨tb_334, tb_41, by decide +kernel⟩, tb_333⟩
theorem n0_X3_numbersBehind : N0 m_X3_numbersBehind := ⟨rfl, rfl⟩
theorem mc_X3_readNumbers : MV m_X3_readNumbers 3 := ⟨⟨tb_328, tb_41, by decide +kernel⟩, tb_327, tp_X3_readNumbers⟩
theorem n0_X3_readNumbers : N0 m_X3_readNumbers := ⟨rfl, rfl⟩
theorem mc_X3_readText : MV m_X3_readText 2 := ⟨⟨tb_324, tb_41, by decide +kernel⟩, tb_322, tb_323⟩
theorem n0_X3_readText : N0 m_X3_readText := ⟨rfl, rfl⟩
theorem mc_X3_slackeningIn : MV m_X3_slackeningIn 1 := ⟨⟨tb_565, tb_41, by decide +kernel⟩, tb_563, tb_564⟩
theorem n0_X3_slackeningIn : N0 m_X3_slackeningIn := ⟨rfl, rfl⟩
theorem mc_X3_takeDamp : MV m_X3_takeDamp 1 := ⟨⟨tb_362, tb_41, by decide +kernel⟩, tb_361, tp_X3_takeDamp⟩
theorem n0_X3_takeDamp : N0 m_X3_takeDamp := ⟨rfl, rfl⟩
theorem mc_X3_takeItem : MV m_X3_takeItem 1 := ⟨⟨tb_351, tb_41, by decide +kernel⟩, tb_350, tp_X3_takeItem⟩
theorem n0_X3_takeItem : N0 m_X3_takeItem := ⟨rfl, rfl⟩
theorem mc_X3_takeStrip : MV m_X3_takeStrip 3 := ⟨⟨tb_358, tb_41, by decide +kernel⟩, tb_357, tp_X3_takeStrip⟩
theorem n0_X3_takeStrip : N0 m_X3_takeStrip := ⟨rfl, rfl⟩
theorem mc_X3_treadAt : MV m_X3_treadAt 1 := ⟨⟨tb_436, tb_41, by decide +kernel⟩, tb_434, tb_435⟩
theorem n0_X3_treadAt : N0 m_X3_treadAt := ⟨rfl, rfl⟩
theorem mc_X4_clear : MV m_X4_clear 0 := ⟨⟨tb_419, tb_43, by decide +kernel⟩, tb_417, tb_418⟩
theorem n0_X4_clear : N0 m_X4_clear := ⟨rfl, rfl⟩
theorem mc_X4_init : MI m_X4_init 1 := ⟨⟨tb_176, tb_43, by decide +kernel⟩, tb_175, rfl, rfl⟩
theorem mc_X4_initB : MI m_X4_initB 1 := ⟨⟨tb_176, tb_43, by decide +kernel⟩, tb_175, rfl, rfl⟩
theorem mc_X4_isFull : MV m_X4_isFull 0 := ⟨⟨tb_744, tb_43, by decide +kernel⟩, tb_742, tb_743⟩
theorem n0_X4_isFull : N0 m_X4_isFull := ⟨rfl, rfl⟩
theorem mc_X4_pop : MV m_X4_pop 1 := ⟨⟨tb_574, tb_43, by decide +kernel⟩, tb_572, tb_573⟩
theorem n0_X4_pop : N0 m_X4_pop := ⟨rfl, rfl⟩
theorem mc_X4_push : MV m_X4_push 1 := ⟨⟨tb_496, tb_43, by decide +kernel⟩, tb_494, tb_495⟩
theorem n0_X4_push : N0 m_X4_push := ⟨rfl, rfl⟩
theorem mc_X4_rowAt : MV m_X4_rowAt 1 := ⟨⟨tb_500, tb_43, by decide +kernel⟩, tb_499, tp_X4_rowAt⟩
theorem n0_X4_rowAt : N0 m_X4_rowAt := ⟨rfl, rfl⟩
theorem mc_X5_add : MV m_X5_add 2 := ⟨⟨tb_657, tb_45, by decide +kernel⟩, tb_655, tb_656⟩
theorem n0_X5_add : N0 m_X5_add := ⟨rfl, rfl⟩
theorem mc_X5_clear : MV m_X5_clear 0 := ⟨⟨tb_204, tb_45, by decide +kernel⟩, tb_202, tb_203⟩
theorem n0_X5_clear : N0 m_X5_clear := ⟨rfl, rfl⟩
theorem mc_X5_explainedBy : MV m_X5_explainedBy 2 := ⟨⟨tb_674, tb_45, by decide +kernel⟩, tb_673, tp_X5_explainedBy⟩
theorem n0_X5_explainedBy : N0 m_X5_explainedBy := ⟨rfl, rfl⟩
theorem mc_X5_givesFor : MV m_X5_givesFor 1 := ⟨⟨tb_681, tb_45, by decide +kernel⟩, tb_679, tb_680⟩
theorem n0_X5_givesFor : N0 m_X5_givesFor := ⟨rfl, rfl⟩
theorem mc_X5_init : MI m_X5_init 0 := ⟨⟨tb_199, tb_45, by decide +kernel⟩, tb_198, rfl, rfl⟩
theorem mc_X5_kindsFor : MV m_X5_kindsFor 1 := ⟨⟨tb_670, tb_45, by decide +kernel⟩, tb_668, tb_669⟩
theorem n0_X5_kindsFor : N0 m_X5_kindsFor := ⟨rfl, rfl⟩
theorem mc_X6_at : MS m_X6_at 2 := ⟨⟨tb_354, tb_40, by decide +kernel⟩, tb_353⟩
theorem n0_X6_at : N0 m_X6_at := ⟨rfl, rfl⟩
theorem mc_X6_back : MV m_X6_back 0 := ⟨⟨tb_748, tb_40, by decide +kernel⟩, tb_746, tb_747⟩
theorem n0_X6_back : N0 m_X6_back := ⟨rfl, rfl⟩
theorem mc_X6_commonDivisor : MS m_X6_commonDivisor 2 := ⟨⟨tb_711, tb_40, by decide +kernel⟩, tb_710⟩
theorem n0_X6_commonDivisor : N0 m_X6_commonDivisor := ⟨rfl, rfl⟩
theorem mc_X6_copy : MS m_X6_copy 2 := ⟨⟨tb_507, tb_40, by decide +kernel⟩, tb_506⟩
theorem n0_X6_copy : N0 m_X6_copy := ⟨rfl, rfl⟩
theorem mc_X6_count : MV m_X6_count 1 := ⟨⟨tb_752, tb_40, by decide +kernel⟩, tb_750, tb_751⟩
theorem n0_X6_count : N0 m_X6_count := ⟨rfl, rfl⟩
theorem mc_X6_cut : MV m_X6_cut 1 := ⟨⟨tb_483, tb_40, by decide +kernel⟩, tb_481, tb_482⟩
theorem n0_X6_cut : N0 m_X6_cut := ⟨rfl, rfl⟩
theorem mc_X6_damp : MV m_X6_damp 1 := ⟨⟨tb_475, tb_40, by decide +kernel⟩, tb_473, tb_474⟩
theorem n0_X6_damp : N0 m_X6_damp := ⟨rfl, rfl⟩
theorem mc_X6_draw : MS m_X6_draw 2 := ⟨⟨tb_719, tb_40, by decide +kernel⟩, tb_718⟩
theorem n0_X6_draw : N0 m_X6_draw := ⟨rfl, rfl⟩
theorem mc_X6_fault : MV m_X6_fault 0 := ⟨⟨tb_411, tb_40, by decide +kernel⟩, tb_409, tb_410⟩
theorem n0_X6_fault : N0 m_X6_fault := ⟨rfl, rfl⟩
theorem mc_X6_forget : MV m_X6_forget 0 := ⟨⟨tb_662, tb_40, by decide +kernel⟩, tb_660, tb_661⟩
theorem n0_X6_forget : N0 m_X6_forget := ⟨rfl, rfl⟩
theorem mc_X6_hall : MV m_X6_hall 2 := ⟨⟨tb_685, tb_40, by decide +kernel⟩, tb_683, tb_684⟩
theorem n0_X6_hall : N0 m_X6_hall := ⟨rfl, rfl⟩
theorem mc_X6_hook : MV m_X6_hook 2 := ⟨⟨tb_518, tb_40, by decide +kernel⟩, tb_516, tb_517⟩
theorem n0_X6_hook : N0 m_X6_hook := ⟨rfl, rfl⟩
theorem mc_X6_init : MI m_X6_init 0 := ⟨⟨tb_58, tb_40, by decide +kernel⟩, tb_57, rfl, rfl⟩
theorem mc_X6_isWall : MS m_X6_isWall 1 := ⟨⟨tb_453, tb_40, by decide +kernel⟩, tb_452⟩
theorem n0_X6_isWall : N0 m_X6_isWall := ⟨rfl, rfl⟩
theorem mc_X6_keep : MV m_X6_keep 0 := ⟨⟨tb_740, tb_40, by decide +kernel⟩, tb_738, tb_739⟩
theorem n0_X6_keep : N0 m_X6_keep := ⟨rfl, rfl⟩
theorem mc_X6_kickFor : MV m_X6_kickFor 2 := ⟨⟨tb_635, tb_40, by decide +kernel⟩, tb_633, tb_634⟩
theorem n0_X6_kickFor : N0 m_X6_kickFor := ⟨rfl, rfl⟩
theorem mc_X6_lay : MV m_X6_lay 0 := ⟨⟨tb_415, tb_40, by decide +kernel⟩, tb_413, tb_414⟩
theorem n0_X6_lay : N0 m_X6_lay := ⟨rfl, rfl⟩
theorem mc_X6_left : MV m_X6_left 1 := ⟨⟨tb_693, tb_40, by decide +kernel⟩, tb_691, tb_692⟩
theorem n0_X6_left : N0 m_X6_left := ⟨rfl, rfl⟩
theorem mc_X6_letGo : MV m_X6_letGo 1 := ⟨⟨tb_549, tb_40, by decide +kernel⟩, tb_547, tb_548⟩
theorem n0_X6_letGo : N0 m_X6_letGo := ⟨rfl, rfl⟩
theorem mc_X6_likely : MV m_X6_likely 4 := ⟨⟨tb_701, tb_40, by decide +kernel⟩, tb_699, tb_700⟩
theorem n0_X6_likely : N0 m_X6_likely := ⟨rfl, rfl⟩
theorem mc_X6_longest : MV m_X6_longest 0 := ⟨⟨tb_649, tb_40, by decide +kernel⟩, tb_647, tb_648⟩
theorem n0_X6_longest : N0 m_X6_longest := ⟨rfl, rfl⟩
theorem mc_X6_may : MV m_X6_may 1 := ⟨⟨tb_666, tb_40, by decide +kernel⟩, tb_664, tb_665⟩
theorem n0_X6_may : N0 m_X6_may := ⟨rfl, rfl⟩
theorem mc_X6_order : MV m_X6_order 1 := ⟨⟨tb_604, tb_40, by decide +kernel⟩, tb_602, tb_603⟩
theorem n0_X6_order : N0 m_X6_order := ⟨rfl, rfl⟩
theorem mc_X6_pass : MV m_X6_pass 1 := ⟨⟨tb_557, tb_40, by decide +kernel⟩, tb_555, tb_556⟩
theorem n0_X6_pass : N0 m_X6_pass := ⟨rfl, rfl⟩
theorem mc_X6_plan : MV m_X6_plan 1 := ⟨⟨tb_578, tb_40, by decide +kernel⟩, tb_576, tb_577⟩
theorem n0_X6_plan : N0 m_X6_plan := ⟨rfl, rfl⟩
theorem mc_X6_power : MS m_X6_power 2 := ⟨⟨tb_708, tb_40, by decide +kernel⟩, tb_707⟩
theorem n0_X6_power : N0 m_X6_power := ⟨rfl, rfl⟩
theorem mc_X6_put : MS m_X6_put 3 := ⟨⟨tb_138, tb_40, by decide +kernel⟩, tb_137⟩
theorem n0_X6_put : N0 m_X6_put := ⟨rfl, rfl⟩
theorem mc_X6_seen : MV m_X6_seen 2 := ⟨⟨tb_653, tb_40, by decide +kernel⟩, tb_651, tb_652⟩
theorem n0_X6_seen : N0 m_X6_seen := ⟨rfl, rfl⟩
theorem mc_X6_slackOf : MS m_X6_slackOf 3 := ⟨⟨tb_544, tb_40, by decide +kernel⟩, tb_543⟩
theorem n0_X6_slackOf : N0 m_X6_slackOf := ⟨rfl, rfl⟩
theorem mc_X6_strip : MV m_X6_strip 2 := ⟨⟨tb_424, tb_40, by decide +kernel⟩, tb_422, tb_423⟩
theorem n0_X6_strip : N0 m_X6_strip := ⟨rfl, rfl⟩
theorem mc_X6_undo : MV m_X6_undo 0 := ⟨⟨tb_570, tb_40, by decide +kernel⟩, tb_568, tb_569⟩
theorem n0_X6_undo : N0 m_X6_undo := ⟨rfl, rfl⟩
theorem mc_X6_wall : MV m_X6_wall 2 := ⟨⟨tb_450, tb_40, by decide +kernel⟩, tb_448, tb_449⟩
theorem n0_X6_wall : N0 m_X6_wall := ⟨rfl, rfl⟩
theorem mc_X6_waves : MV m_X6_waves 0 := ⟨⟨tb_640, tb_40, by decide +kernel⟩, tb_638, tb_639⟩
theorem n0_X6_waves : N0 m_X6_waves := ⟨rfl, rfl⟩
theorem mc_X6_waysToWave : MS m_X6_waysToWave 3 := ⟨⟨tb_704, tb_40, by decide +kernel⟩, tb_703⟩
theorem n0_X6_waysToWave : N0 m_X6_waysToWave := ⟨rfl, rfl⟩
theorem mc_X6_wipe : MV m_X6_wipe 0 := ⟨⟨tb_407, tb_40, by decide +kernel⟩, tb_405, tb_406⟩
theorem n0_X6_wipe : N0 m_X6_wipe := ⟨rfl, rfl⟩
theorem mc_X6_within : MS m_X6_within 3 := ⟨⟨tb_343, tb_40, by decide +kernel⟩, tb_342⟩
theorem n0_X6_within : N0 m_X6_within := ⟨rfl, rfl⟩
theorem mc_X6_write : MV m_X6_write 1 := ⟨⟨tb_402, tb_40, by decide +kernel⟩, tb_400, tb_401⟩
theorem n0_X6_write : N0 m_X6_write := ⟨rfl, rfl⟩
theorem mc_X6_year : MV m_X6_year 3 := ⟨⟨tb_715, tb_40, by decide +kernel⟩, tb_713, tb_714⟩
theorem n0_X6_year : N0 m_X6_year := ⟨rfl, rfl⟩
theorem mc_X7_addStrip : MV m_X7_addStrip 4 := ⟨⟨tb_762, tb_52, by decide +kernel⟩, tb_761, tp_X7_addStrip⟩
theorem n0_X7_addStrip : N0 m_X7_addStrip := ⟨rfl, rfl⟩
theorem mc_X7_back : MV m_X7_back 0 := ⟨⟨tb_1084, tb_52, by decide +kernel⟩, tb_1082, tb_1083⟩
theorem n0_X7_back : N0 m_X7_back := ⟨rfl, rfl⟩
theorem mc_X7_begin : MV m_X7_begin 0 := ⟨⟨tb_1020, tb_52, by decide +kernel⟩, tb_1019, tp_X7_begin⟩
theorem n0_X7_begin : N0 m_X7_begin := ⟨rfl, rfl⟩
theorem mc_X7_bits : MS m_X7_bits 1 := ⟨⟨tb_962, tb_52, by decide +kernel⟩, tb_961⟩
theorem n0_X7_bits : N0 m_X7_bits := ⟨rfl, rfl⟩
theorem mc_X7_bring : MS m_X7_bring 5 := ⟨⟨tb_895, tb_52, by decide +kernel⟩, tb_894⟩
theorem n0_X7_bring : N0 m_X7_bring := ⟨rfl, rfl⟩
theorem mc_X7_count : MV m_X7_count 1 := ⟨⟨tb_1088, tb_52, by decide +kernel⟩, tb_1086, tb_1087⟩
theorem n0_X7_count : N0 m_X7_count := ⟨rfl, rfl⟩
theorem mc_X7_coveredIn : MS m_X7_coveredIn 1 := ⟨⟨tb_928, tb_52, by decide +kernel⟩, tb_927⟩
theorem n0_X7_coveredIn : N0 m_X7_coveredIn := ⟨rfl, rfl⟩
theorem mc_X7_covers : MV m_X7_covers 2 := ⟨⟨tb_996, tb_52, by decide +kernel⟩, tb_995, tp_X7_covers⟩
theorem n0_X7_covers : N0 m_X7_covers := ⟨rfl, rfl⟩
theorem mc_X7_cut : MV m_X7_cut 1 := ⟨⟨tb_925, tb_52, by decide +kernel⟩, tb_923, tb_924⟩
theorem n0_X7_cut : N0 m_X7_cut := ⟨rfl, rfl⟩
theorem mc_X7_damp : MV m_X7_damp 1 := ⟨⟨tb_917, tb_52, by decide +kernel⟩, tb_915, tb_916⟩
theorem n0_X7_damp : N0 m_X7_damp := ⟨rfl, rfl⟩
theorem mc_X7_dampBy : MV m_X7_dampBy 1 := ⟨⟨tb_921, tb_52, by decide +kernel⟩, tb_920, tp_X7_dampBy⟩
theorem n0_X7_dampBy : N0 m_X7_dampBy := ⟨rfl, rfl⟩
theorem mc_X7_fault : MV m_X7_fault 0 := ⟨⟨tb_859, tb_52, by decide +kernel⟩, tb_857, tb_858⟩
theorem n0_X7_fault : N0 m_X7_fault := ⟨rfl, rfl⟩
theorem mc_X7_forget : MV m_X7_forget 0 := ⟨⟨tb_1048, tb_52, by decide +kernel⟩, tb_1046, tb_1047⟩
theorem n0_X7_forget : N0 m_X7_forget := ⟨rfl, rfl⟩
theorem mc_X7_givesBy : MS m_X7_givesBy 3 := ⟨⟨tb_965, tb_52, by decide +kernel⟩, tb_964⟩
theorem n0_X7_givesBy : N0 m_X7_givesBy := ⟨rfl, rfl⟩
theorem mc_X7_hall : MV m_X7_hall 2 := ⟨⟨tb_1060, tb_52, by decide +kernel⟩, tb_1058, tb_1059⟩
theorem n0_X7_hall : N0 m_X7_hall := ⟨rfl, rfl⟩
theorem mc_X7_has : MS m_X7_has 2 := ⟨⟨tb_913, tb_52, by decide +kernel⟩, tb_912⟩
theorem n0_X7_has : N0 m_X7_has := ⟨rfl, rfl⟩
theorem mc_X7_hook : MV m_X7_hook 2 := ⟨⟨tb_944, tb_52, by decide +kernel⟩, tb_942, tb_943⟩
theorem n0_X7_hook : N0 m_X7_hook := ⟨rfl, rfl⟩
theorem mc_X7_in : MS m_X7_in 3 := ⟨⟨tb_851, tb_52, by decide +kernel⟩, tb_850⟩
theorem n0_X7_in : N0 m_X7_in := ⟨rfl, rfl⟩
theorem mc_X7_init : MI m_X7_init 0 := ⟨⟨tb_757, tb_52, by decide +kernel⟩, tb_756, rfl, rfl⟩
theorem mc_X7_isBefore : MV m_X7_isBefore 1 := ⟨⟨tb_1004, tb_52, by decide +kernel⟩, tb_1003, tp_X7_isBefore⟩
theorem n0_X7_isBefore : N0 m_X7_isBefore := ⟨rfl, rfl⟩
theorem mc_X7_isCovered : MV m_X7_isCovered 0 := ⟨⟨tb_948, tb_52, by decide +kernel⟩, tb_947, tp_X7_isCovered⟩
theorem n0_X7_isCovered : N0 m_X7_isCovered := ⟨rfl, rfl⟩
theorem mc_X7_isDampItem : MV m_X7_isDampItem 0 := ⟨⟨tb_887, tb_52, by decide +kernel⟩, tb_886, tp_X7_isDampItem⟩
theorem n0_X7_isDampItem : N0 m_X7_isDampItem := ⟨rfl, rfl⟩
theorem mc_X7_isFree : MS m_X7_isFree 2 := ⟨⟨tb_951, tb_52, by decide +kernel⟩, tb_950⟩
theorem n0_X7_isFree : N0 m_X7_isFree := ⟨rfl, rfl⟩
theorem mc_X7_isHooked : MS m_X7_isHooked 2 := ⟨⟨tb_910, tb_52, by decide +kernel⟩, tb_909⟩
theorem n0_X7_isHooked : N0 m_X7_isHooked := ⟨rfl, rfl⟩
theorem mc_X7_isItem : MV m_X7_isItem 0 := ⟨⟨tb_863, tb_52, by decide +kernel⟩, tb_862, tp_X7_isItem⟩
theorem n0_X7_isItem : N0 m_X7_isItem := ⟨rfl, rfl⟩
theorem mc_X7_isNumber : MV m_X7_isNumber 3 := ⟨⟨tb_875, tb_52, by decide +kernel⟩, tb_874, tp_X7_isNumber⟩
theorem n0_X7_isNumber : N0 m_X7_isNumber := ⟨rfl, rfl⟩
theorem mc_X7_isOne : MV m_X7_isOne 3 := ⟨⟨tb_883, tb_52, by decide +kernel⟩, tb_882, tp_X7_isOne⟩
theorem n0_X7_isOne : N0 m_X7_isOne := ⟨rfl, rfl⟩
theorem mc_X7_isPair : MV m_X7_isPair 5 := ⟨⟨tb_879, tb_52, by decide +kernel⟩, tb_878, tp_X7_isPair⟩
theorem n0_X7_isPair : N0 m_X7_isPair := ⟨rfl, rfl⟩
theorem mc_X7_isSo : MV m_X7_isSo 2 := ⟨⟨tb_1056, tb_52, by decide +kernel⟩, tb_1055, tp_X7_isSo⟩
theorem n0_X7_isSo : N0 m_X7_isSo := ⟨rfl, rfl⟩
theorem mc_X7_isStripItem : MV m_X7_isStripItem 0 := ⟨⟨tb_871, tb_52, by decide +kernel⟩, tb_870, tp_X7_isStripItem⟩
theorem n0_X7_isStripItem : N0 m_X7_isStripItem := ⟨rfl, rfl⟩
theorem mc_X7_keep : MV m_X7_keep 0 := ⟨⟨tb_1080, tb_52, by decide +kernel⟩, tb_1078, tb_1079⟩
theorem n0_X7_keep : N0 m_X7_keep := ⟨rfl, rfl⟩
theorem mc_X7_kick : MV m_X7_kick 3 := ⟨⟨tb_955, tb_52, by decide +kernel⟩, tb_954, tp_X7_kick⟩
theorem n0_X7_kick : N0 m_X7_kick := ⟨rfl, rfl⟩
theorem mc_X7_kickFor : MV m_X7_kickFor 2 := ⟨⟨tb_1028, tb_52, by decide +kernel⟩, tb_1026, tb_1027⟩
theorem n0_X7_kickFor : N0 m_X7_kickFor := ⟨rfl, rfl⟩
theorem mc_X7_kicks : MV m_X7_kicks 1 := ⟨⟨tb_1016, tb_52, by decide +kernel⟩, tb_1015, tp_X7_kicks⟩
theorem n0_X7_kicks : N0 m_X7_kicks := ⟨rfl, rfl⟩
theorem mc_X7_lay : MV m_X7_lay 0 := ⟨⟨tb_891, tb_52, by decide +kernel⟩, tb_889, tb_890⟩
theorem n0_X7_lay : N0 m_X7_lay := ⟨rfl, rfl⟩
theorem mc_X7_layOrder : MV m_X7_layOrder 0 := ⟨⟨tb_1012, tb_52, by decide +kernel⟩, tb_1011, tp_X7_layOrder⟩
theorem n0_X7_layOrder : N0 m_X7_layOrder := ⟨rfl, rfl⟩
theorem mc_X7_layPlan : MV m_X7_layPlan 0 := ⟨⟨tb_992, tb_52, by decide +kernel⟩, tb_991, tp_X7_layPlan⟩
theorem n0_X7_layPlan : N0 m_X7_layPlan := ⟨rfl, rfl⟩
theorem mc_X7_leastKick : MV m_X7_leastKick 3 := ⟨⟨tb_1024, tb_52, by decide +kernel⟩, tb_1023, tp_X7_leastKick⟩
theorem n0_X7_leastKick : N0 m_X7_leastKick := ⟨rfl, rfl⟩
theorem mc_X7_left : MV m_X7_left 1 := ⟨⟨tb_1064, tb_52, by decide +kernel⟩, tb_1062, tb_1063⟩
theorem n0_X7_left : N0 m_X7_left := ⟨rfl, rfl⟩
theorem mc_X7_lengthOf : MV m_X7_lengthOf 1 := ⟨⟨tb_903, tb_52, by decide +kernel⟩, tb_902, tp_X7_lengthOf⟩
theorem n0_X7_lengthOf : N0 m_X7_lengthOf := ⟨rfl, rfl⟩
theorem mc_X7_letGo : MV m_X7_letGo 1 := ⟨⟨tb_969, tb_52, by decide +kernel⟩, tb_967, tb_968⟩
theorem n0_X7_letGo : N0 m_X7_letGo := ⟨rfl, rfl⟩
theorem mc_X7_letterAt : MV m_X7_letterAt 1 := ⟨⟨tb_867, tb_52, by decide +kernel⟩, tb_866, tp_X7_letterAt⟩
theorem n0_X7_letterAt : N0 m_X7_letterAt := ⟨rfl, rfl⟩
theorem mc_X7_likely : MV m_X7_likely 4 := ⟨⟨tb_1068, tb_52, by decide +kernel⟩, tb_1066, tb_1067⟩
theorem n0_X7_likely : N0 m_X7_likely := ⟨rfl, rfl⟩
theorem mc_X7_longFor : MV m_X7_longFor 2 := ⟨⟨tb_932, tb_52, by decide +kernel⟩, tb_931, tp_X7_longFor⟩
theorem n0_X7_longFor : N0 m_X7_longFor := ⟨rfl, rfl⟩
theorem mc_X7_longest : MV m_X7_longest 0 := ⟨⟨tb_1040, tb_52, by decide +kernel⟩, tb_1038, tb_1039⟩
theorem n0_X7_longest : N0 m_X7_longest := ⟨rfl, rfl⟩
theorem mc_X7_loosen : MS m_X7_loosen 2 := ⟨⟨tb_972, tb_52, by decide +kernel⟩, tb_971⟩
theorem n0_X7_loosen : N0 m_X7_loosen := ⟨rfl, rfl⟩
theorem mc_X7_may : MV m_X7_may 1 := ⟨⟨tb_1052, tb_52, by decide +kernel⟩, tb_1050, tb_1051⟩
theorem n0_X7_may : N0 m_X7_may := ⟨rfl, rfl⟩
theorem mc_X7_note : MV m_X7_note 0 := ⟨⟨tb_940, tb_52, by decide +kernel⟩, tb_939, tp_X7_note⟩
theorem n0_X7_note : N0 m_X7_note := ⟨rfl, rfl⟩
theorem mc_X7_order : MV m_X7_order 1 := ⟨⟨tb_1008, tb_52, by decide +kernel⟩, tb_1006, tb_1007⟩
theorem n0_X7_order : N0 m_X7_order := ⟨rfl, rfl⟩
theorem mc_X7_pass : MV m_X7_pass 1 := ⟨⟨tb_976, tb_52, by decide +kernel⟩, tb_974, tb_975⟩
theorem n0_X7_pass : N0 m_X7_pass := ⟨rfl, rfl⟩
theorem mc_X7_passMonth : MV m_X7_passMonth 1 := ⟨⟨tb_980, tb_52, by decide +kernel⟩, tb_979, tp_X7_passMonth⟩
theorem n0_X7_passMonth : N0 m_X7_passMonth := ⟨rfl, rfl⟩
theorem mc_X7_plan : MV m_X7_plan 1 := ⟨⟨tb_988, tb_52, by decide +kernel⟩, tb_986, tb_987⟩
theorem n0_X7_plan : N0 m_X7_plan := ⟨rfl, rfl⟩
theorem mc_X7_rollIn : MV m_X7_rollIn 1 := ⟨⟨tb_936, tb_52, by decide +kernel⟩, tb_935, tp_X7_rollIn⟩
theorem n0_X7_rollIn : N0 m_X7_rollIn := ⟨rfl, rfl⟩
theorem mc_X7_seamAt : MV m_X7_seamAt 1 := ⟨⟨tb_1000, tb_52, by decide +kernel⟩, tb_999, tp_X7_seamAt⟩
theorem n0_X7_seamAt : N0 m_X7_seamAt := ⟨rfl, rfl⟩
theorem mc_X7_seen : MV m_X7_seen 2 := ⟨⟨tb_1044, tb_52, by decide +kernel⟩, tb_1042, tb_1043⟩
theorem n0_X7_seen : N0 m_X7_seen := ⟨rfl, rfl⟩
theorem mc_X7_strip : MV m_X7_strip 2 := ⟨⟨tb_899, tb_52, by decide +kernel⟩, tb_897, tb_898⟩
theorem n0_X7_strip : N0 m_X7_strip := ⟨rfl, rfl⟩
theorem mc_X7_tightBy : MV m_X7_tightBy 3 := ⟨⟨tb_959, tb_52, by decide +kernel⟩, tb_958, tp_X7_tightBy⟩
theorem n0_X7_tightBy : N0 m_X7_tightBy := ⟨rfl, rfl⟩
theorem mc_X7_undo : MV m_X7_undo 0 := ⟨⟨tb_984, tb_52, by decide +kernel⟩, tb_982, tb_983⟩
theorem n0_X7_undo : N0 m_X7_undo := ⟨rfl, rfl⟩
theorem mc_X7_wall : MV m_X7_wall 2 := ⟨⟨tb_907, tb_52, by decide +kernel⟩, tb_905, tb_906⟩
theorem n0_X7_wall : N0 m_X7_wall := ⟨rfl, rfl⟩
theorem mc_X7_waves : MV m_X7_waves 0 := ⟨⟨tb_1032, tb_52, by decide +kernel⟩, tb_1030, tb_1031⟩
theorem n0_X7_waves : N0 m_X7_waves := ⟨rfl, rfl⟩
theorem mc_X7_wavesAt : MV m_X7_wavesAt 1 := ⟨⟨tb_1036, tb_52, by decide +kernel⟩, tb_1035, tp_X7_wavesAt⟩
theorem n0_X7_wavesAt : N0 m_X7_wavesAt := ⟨rfl, rfl⟩
theorem mc_X7_wipe : MV m_X7_wipe 0 := ⟨⟨tb_855, tb_52, by decide +kernel⟩, tb_853, tb_854⟩
theorem n0_X7_wipe : N0 m_X7_wipe := ⟨rfl, rfl⟩
theorem mc_X7_write : MV m_X7_write 1 := ⟨⟨tb_848, tb_52, by decide +kernel⟩, tb_846, tb_847⟩
theorem n0_X7_write : N0 m_X7_write := ⟨rfl, rfl⟩
theorem mc_X7_year : MV m_X7_year 3 := ⟨⟨tb_1072, tb_52, by decide +kernel⟩, tb_1070, tb_1071⟩
theorem n0_X7_year : N0 m_X7_year := ⟨rfl, rfl⟩
theorem ml_RX6_15 : ML RX6 15 m_X3_init := Or.inl tb_64
theorem ml_RX6_25 : ML RX6 25 m_X0_init := Or.inl tb_128
theorem ml_RX6_35 : ML RX6 35 m_X4_init := Or.inl tb_174
theorem ml_RX6_35B : ML RX6 35 m_X4_initB := Or.inl tb_174
theorem ml_RX6_47 : ML RX6 47 m_X5_init := Or.inl tb_197
theorem ml_RX6_54 : ML RX6 54 m_X1_init := Or.inl tb_218
theorem ml_RX6_61 : ML RX6 61 m_X2_init := Or.inl tb_252
theorem ml_RX6_78 : ML RX6 78 m_X3_readText := Or.inl tb_321
theorem ml_RX6_86 : ML RX6 86 m_X0_clear := Or.inl tb_363
theorem ml_RX6_89 : ML RX6 89 m_X6_within := Or.inl tb_403
theorem ml_RX6_99 : ML RX6 99 m_X4_clear := Or.inl tb_416
theorem ml_RX6_101 : ML RX6 101 m_X5_clear := Or.inl tb_420
theorem ml_RX6_102 : ML RX6 102 m_X3_lengthOfStrip := Or.inl tb_425
theorem ml_RX6_106 : ML RX6 106 m_X3_lightAt := Or.inl tb_429
theorem ml_RX6_109 : ML RX6 109 m_X3_treadAt := Or.inl tb_433
theorem ml_RX6_112 : ML RX6 112 m_X0_lengthOver := Or.inl tb_437
theorem ml_RX6_115 : ML RX6 115 m_X0_isSeamAt := Or.inl tb_442
theorem ml_RX6_119 : ML RX6 119 m_X6_isWall := Or.inl tb_451
theorem ml_RX6_122 : ML RX6 122 m_X0_tightness := Or.inl tb_454
theorem ml_RX6_125 : ML RX6 125 m_X0_isHooked := Or.inl tb_458
theorem ml_RX6_128 : ML RX6 128 m_X0_isTorn := Or.inl tb_462
theorem ml_RX6_131 : ML RX6 131 m_X0_isWaving := Or.inl tb_466
theorem ml_RX6_134 : ML RX6 134 m_X3_dampOf := Or.inl tb_476
theorem ml_RX6_137 : ML RX6 137 m_X0_canCut := Or.inl tb_484
theorem ml_RX6_141 : ML RX6 141 m_X4_push := Or.inl tb_493
theorem ml_RX6_145 : ML RX6 145 m_X0_cutFor := Or.inl tb_511
theorem ml_RX6_149 : ML RX6 149 m_X0_isCovered := Or.inl tb_519
theorem ml_RX6_153 : ML RX6 153 m_X0_isFree := Or.inl tb_523
theorem ml_RX6_156 : ML RX6 156 m_X0_hookOn := Or.inl tb_528
theorem ml_RX6_160 : ML RX6 160 m_X0_unhook := Or.inl tb_550
theorem ml_RX6_166 : ML RX6 166 m_X0_passMonth := Or.inl tb_558
theorem ml_RX6_170 : ML RX6 170 m_X4_pop := Or.inl tb_571
theorem ml_RX6_177 : ML RX6 177 m_X1_make := Or.inl tb_579
theorem ml_RX6_191 : ML RX6 191 m_X1_breadthOf := Or.inl tb_597
theorem ml_RX6_194 : ML RX6 194 m_X2_make := Or.inl tb_605
theorem ml_RX6_200 : ML RX6 200 m_X2_wallAt := Or.inl tb_628
theorem ml_RX6_203 : ML RX6 203 m_X0_leastKick := Or.inl tb_636
theorem ml_RX6_206 : ML RX6 206 m_X0_monthsToWave := Or.inl tb_641
theorem ml_RX6_215 : ML RX6 215 m_X5_add := Or.inl tb_654
theorem ml_RX6_223 : ML RX6 223 m_X5_kindsFor := Or.inl tb_667
theorem ml_RX6_229 : ML RX6 229 m_X5_givesFor := Or.inl tb_678
theorem ml_RX6_232 : ML RX6 232 m_X0_hasRestFor := Or.inl tb_686
theorem ml_RX6_242 : ML RX6 242 m_X0_areaOfRests := Or.inl tb_694
theorem ml_RX6_246 : ML RX6 246 m_X6_waysToWave := Or.inl tb_702
theorem ml_RX6_250 : ML RX6 250 m_X6_power := Or.inl tb_706
theorem ml_RX6_253 : ML RX6 253 m_X6_commonDivisor := Or.inl tb_709
theorem ml_RX6_256 : ML RX6 256 m_X0_copyFrom := Or.inl tb_716
theorem ml_RX6_259 : ML RX6 259 m_X6_draw := Or.inl tb_717
theorem ml_RX6_262 : ML RX6 262 m_X0_takeStep := Or.inl tb_724
theorem ml_RX6_269 : ML RX6 269 m_J6_bitCount_0f7a4 := Or.inl tb_732
theorem ml_RX6_274 : ML RX6 274 m_X0_tightnessInAll := Or.inl tb_733
theorem ml_RX6_277 : ML RX6 277 m_X4_isFull := Or.inl tb_741
theorem ml_RX0_18 : ML RX0 18 m_X0_clear := Or.inl tb_132
theorem ml_RX0_22 : ML RX0 22 m_X6_put := Or.inr ⟨"StretchedCarpet", tb_136⟩
theorem ml_RX0_45 : ML RX0 45 m_X6_copy := Or.inr ⟨"StretchedCarpet", tb_505⟩
theorem ml_RX0_57 : ML RX0 57 m_X3_lengthFor := Or.inl tb_488
theorem ml_RX0_61 : ML RX0 61 m_X6_at := Or.inr ⟨"StretchedCarpet", tb_441⟩
theorem ml_RX0_65 : ML RX0 65 m_X0_lengthOver := Or.inl tb_446
theorem ml_RX0_69 : ML RX0 69 m_X0_isHooked := Or.inl tb_470
theorem ml_RX0_73 : ML RX0 73 m_X0_isTorn := Or.inl tb_527
theorem ml_RX0_76 : ML RX0 76 m_X0_tightness := Or.inl tb_471
theorem ml_RX0_85 : ML RX0 85 m_J6_bitCount_0f7a4 := Or.inl tb_536
theorem ml_RX0_90 : ML RX0 90 m_X6_slackOf := Or.inr ⟨"StretchedCarpet", tb_542⟩
theorem ml_RX0_99 : ML RX0 99 m_X0_tightnessBy := Or.inl tb_532
theorem ml_RX0_106 : ML RX0 106 m_X3_slackeningIn := Or.inl tb_562
theorem ml_RX0_109 : ML RX0 109 m_X0_unhook := Or.inl tb_728
theorem ml_RX0_112 : ML RX0 112 m_X0_isFree := Or.inl tb_729
theorem ml_RX0_115 : ML RX0 115 m_X0_hookOn := Or.inl tb_730
theorem ml_RX0_118 : ML RX0 118 m_X0_passMonth := Or.inl tb_731
theorem ml_RX1_42 : ML RX1 42 m_X6_put := Or.inr ⟨"StretchedCarpet", tb_583⟩
theorem ml_RX1_46 : ML RX1 46 m_X1_choose := Or.inl tb_584
theorem ml_RX1_50 : ML RX1 50 m_X6_at := Or.inr ⟨"StretchedCarpet", tb_592⟩
theorem ml_RX1_63 : ML RX1 63 m_X3_lightAt := Or.inl tb_588
theorem ml_RX1_67 : ML RX1 67 m_X3_treadAt := Or.inl tb_589
theorem ml_RX1_79 : ML RX1 79 m_X3_lengthFor := Or.inl tb_591
theorem ml_RX1_82 : ML RX1 82 m_X1_isLess := Or.inl tb_593
theorem ml_RX2_18 : ML RX2 18 m_X0_isFree := Or.inl tb_609
theorem ml_RX2_24 : ML RX2 24 m_X2_isOrder := Or.inl tb_610
theorem ml_RX2_28 : ML RX2 28 m_X2_kicksOf := Or.inl tb_618
theorem ml_RX2_35 : ML RX2 35 m_X2_wallIn := Or.inl tb_614
theorem ml_RX2_39 : ML RX2 39 m_X0_copyFrom := Or.inl tb_622
theorem ml_RX2_46 : ML RX2 46 m_X0_leastKick := Or.inl tb_623
theorem ml_RX2_50 : ML RX2 50 m_X0_hookOn := Or.inl tb_627
theorem ml_RX3_27 : ML RX3 27 m_X3_clear := Or.inl tb_68
theorem ml_RX3_55 : ML RX3 55 m_X3_readNumbers := Or.inl tb_325
theorem ml_RX3_59 : ML RX3 59 m_X3_letterAt := Or.inl tb_329
theorem ml_RX3_62 : ML RX3 62 m_X3_takeItem := Or.inl tb_348
theorem ml_RX3_66 : ML RX3 66 m_X3_numbersBehind := Or.inl tb_332
theorem ml_RX3_70 : ML RX3 70 m_X3_figuresAt := Or.inl tb_335
theorem ml_RX3_73 : ML RX3 73 m_X3_numberAt := Or.inl tb_344
theorem ml_RX3_77 : ML RX3 77 m_X6_put := Or.inr ⟨"StretchedCarpet", tb_347⟩
theorem ml_RX3_81 : ML RX3 81 m_X3_isFigure := Or.inl tb_338
theorem ml_RX3_84 : ML RX3 84 m_X6_within := Or.inr ⟨"StretchedCarpet", tb_341⟩
theorem ml_RX3_88 : ML RX3 88 m_X6_at := Or.inr ⟨"StretchedCarpet", tb_352⟩
theorem ml_RX3_92 : ML RX3 92 m_X3_takeStrip := Or.inl tb_355
theorem ml_RX3_95 : ML RX3 95 m_X3_takeDamp := Or.inl tb_359
theorem ml_RX3_98 : ML RX3 98 m_X3_dampOf := Or.inl tb_566
theorem ml_RX4_29 : ML RX4 29 m_X4_rowAt := Or.inl tb_497
theorem ml_RX4_33 : ML RX4 33 m_X0_copyFrom := Or.inl tb_501
theorem ml_RX5_18 : ML RX5 18 m_X5_clear := Or.inl tb_201
theorem ml_RX5_25 : ML RX5 25 m_X6_put := Or.inr ⟨"StretchedCarpet", tb_658⟩
theorem ml_RX5_29 : ML RX5 29 m_X5_explainedBy := Or.inl tb_671
theorem ml_RX5_33 : ML RX5 33 m_X6_slackOf := Or.inr ⟨"StretchedCarpet", tb_675⟩
theorem ml_RX5_37 : ML RX5 37 m_X6_at := Or.inr ⟨"StretchedCarpet", tb_676⟩
theorem ml_RL_9 : ML RL 9 m_X6_init := Or.inl tb_56
theorem ml_RL_12 : ML RL 12 m_X7_init := Or.inl tb_755
theorem ml_RL_13 : ML RL 13 m_X6_write := Or.inl tb_399
theorem ml_RL_17 : ML RL 17 m_X7_write := Or.inl tb_845
theorem ml_RL_18 : ML RL 18 m_X6_wipe := Or.inl tb_404
theorem ml_RL_22 : ML RL 22 m_X7_wipe := Or.inl tb_852
theorem ml_RL_23 : ML RL 23 m_X6_fault := Or.inl tb_408
theorem ml_RL_26 : ML RL 26 m_X7_fault := Or.inl tb_856
theorem ml_RL_27 : ML RL 27 m_X6_lay := Or.inl tb_412
theorem ml_RL_30 : ML RL 30 m_X7_lay := Or.inl tb_888
theorem ml_RL_31 : ML RL 31 m_X6_strip := Or.inl tb_421
theorem ml_RL_35 : ML RL 35 m_X7_strip := Or.inl tb_896
theorem ml_RL_36 : ML RL 36 m_X6_wall := Or.inl tb_447
theorem ml_RL_39 : ML RL 39 m_X7_wall := Or.inl tb_904
theorem ml_RL_40 : ML RL 40 m_X6_damp := Or.inl tb_472
theorem ml_RL_43 : ML RL 43 m_X7_damp := Or.inl tb_914
theorem ml_RL_44 : ML RL 44 m_X6_cut := Or.inl tb_480
theorem ml_RL_47 : ML RL 47 m_X7_cut := Or.inl tb_922
theorem ml_RL_48 : ML RL 48 m_X6_hook := Or.inl tb_515
theorem ml_RL_51 : ML RL 51 m_X7_hook := Or.inl tb_941
theorem ml_RL_52 : ML RL 52 m_X6_letGo := Or.inl tb_546
theorem ml_RL_55 : ML RL 55 m_X7_letGo := Or.inl tb_966
theorem ml_RL_56 : ML RL 56 m_X6_pass := Or.inl tb_554
theorem ml_RL_59 : ML RL 59 m_X7_pass := Or.inl tb_973
theorem ml_RL_60 : ML RL 60 m_X6_undo := Or.inl tb_567
theorem ml_RL_63 : ML RL 63 m_X7_undo := Or.inl tb_981
theorem ml_RL_64 : ML RL 64 m_X6_plan := Or.inl tb_575
theorem ml_RL_67 : ML RL 67 m_X7_plan := Or.inl tb_985
theorem ml_RL_68 : ML RL 68 m_X6_order := Or.inl tb_601
theorem ml_RL_71 : ML RL 71 m_X7_order := Or.inl tb_1005
theorem ml_RL_72 : ML RL 72 m_X6_kickFor := Or.inl tb_632
theorem ml_RL_75 : ML RL 75 m_X7_kickFor := Or.inl tb_1025
theorem ml_RL_76 : ML RL 76 m_X6_waves := Or.inl tb_637
theorem ml_RL_79 : ML RL 79 m_X7_waves := Or.inl tb_1029
theorem ml_RL_80 : ML RL 80 m_X6_longest := Or.inl tb_646
theorem ml_RL_83 : ML RL 83 m_X7_longest := Or.inl tb_1037
theorem ml_RL_84 : ML RL 84 m_X6_seen := Or.inl tb_650
theorem ml_RL_87 : ML RL 87 m_X7_seen := Or.inl tb_1041
theorem ml_RL_88 : ML RL 88 m_X6_forget := Or.inl tb_659
theorem ml_RL_91 : ML RL 91 m_X7_forget := Or.inl tb_1045
theorem ml_RL_92 : ML RL 92 m_X6_may := Or.inl tb_663
theorem ml_RL_95 : ML RL 95 m_X7_may := Or.inl tb_1049
theorem ml_RL_96 : ML RL 96 m_X6_hall := Or.inl tb_682
theorem ml_RL_99 : ML RL 99 m_X7_hall := Or.inl tb_1057
theorem ml_RL_100 : ML RL 100 m_X6_left := Or.inl tb_690
theorem ml_RL_103 : ML RL 103 m_X7_left := Or.inl tb_1061
theorem ml_RL_104 : ML RL 104 m_X6_likely := Or.inl tb_698
theorem ml_RL_108 : ML RL 108 m_X7_likely := Or.inl tb_1065
theorem ml_RL_109 : ML RL 109 m_X6_year := Or.inl tb_712
theorem ml_RL_113 : ML RL 113 m_X7_year := Or.inl tb_1069
theorem ml_RL_114 : ML RL 114 m_X6_keep := Or.inl tb_737
theorem ml_RL_117 : ML RL 117 m_X7_keep := Or.inl tb_1077
theorem ml_RL_118 : ML RL 118 m_X6_back := Or.inl tb_745
theorem ml_RL_121 : ML RL 121 m_X7_back := Or.inl tb_1081
theorem ml_RL_122 : ML RL 122 m_X6_count := Or.inl tb_749
theorem ml_RL_125 : ML RL 125 m_X7_count := Or.inl tb_1085
theorem ml_RX7_52 : ML RX7 52 m_X7_addStrip := Or.inl tb_759
theorem ml_RX7_63 : ML RX7 63 m_X7_in := Or.inl tb_849
theorem ml_RX7_76 : ML RX7 76 m_X7_letterAt := Or.inl tb_864
theorem ml_RX7_83 : ML RX7 83 m_X7_isNumber := Or.inl tb_872
theorem ml_RX7_89 : ML RX7 89 m_X7_isStripItem := Or.inl tb_868
theorem ml_RX7_93 : ML RX7 93 m_X7_isPair := Or.inl tb_876
theorem ml_RX7_97 : ML RX7 97 m_X7_isOne := Or.inl tb_880
theorem ml_RX7_100 : ML RX7 100 m_X7_isDampItem := Or.inl tb_884
theorem ml_RX7_103 : ML RX7 103 m_X7_isItem := Or.inl tb_860
theorem ml_RX7_106 : ML RX7 106 m_X7_fault := Or.inl tb_892
theorem ml_RX7_110 : ML RX7 110 m_X7_bring := Or.inl tb_893
theorem ml_RX7_123 : ML RX7 123 m_X7_lengthOf := Or.inl tb_900
theorem ml_RX7_126 : ML RX7 126 m_X7_has := Or.inl tb_911
theorem ml_RX7_130 : ML RX7 130 m_X7_isHooked := Or.inl tb_908
theorem ml_RX7_134 : ML RX7 134 m_X7_dampBy := Or.inl tb_918
theorem ml_RX7_137 : ML RX7 137 m_X7_coveredIn := Or.inl tb_926
theorem ml_RX7_141 : ML RX7 141 m_X7_longFor := Or.inl tb_929
theorem ml_RX7_145 : ML RX7 145 m_X7_rollIn := Or.inl tb_933
theorem ml_RX7_148 : ML RX7 148 m_X7_note := Or.inl tb_937
theorem ml_RX7_151 : ML RX7 151 m_X7_bits := Or.inl tb_960
theorem ml_RX7_154 : ML RX7 154 m_X7_givesBy := Or.inl tb_963
theorem ml_RX7_158 : ML RX7 158 m_X7_tightBy := Or.inl tb_956
theorem ml_RX7_162 : ML RX7 162 m_X7_isCovered := Or.inl tb_945
theorem ml_RX7_165 : ML RX7 165 m_X7_isFree := Or.inl tb_949
theorem ml_RX7_168 : ML RX7 168 m_X7_kick := Or.inl tb_952
theorem ml_RX7_172 : ML RX7 172 m_X7_loosen := Or.inl tb_970
theorem ml_RX7_176 : ML RX7 176 m_X7_passMonth := Or.inl tb_977
theorem ml_RX7_180 : ML RX7 180 m_X7_seamAt := Or.inl tb_997
theorem ml_RX7_189 : ML RX7 189 m_X7_isBefore := Or.inl tb_1001
theorem ml_RX7_196 : ML RX7 196 m_X7_covers := Or.inl tb_993
theorem ml_RX7_199 : ML RX7 199 m_X7_layPlan := Or.inl tb_989
theorem ml_RX7_202 : ML RX7 202 m_X7_kicks := Or.inl tb_1013
theorem ml_RX7_205 : ML RX7 205 m_X7_begin := Or.inl tb_1017
theorem ml_RX7_208 : ML RX7 208 m_X7_leastKick := Or.inl tb_1021
theorem ml_RX7_211 : ML RX7 211 m_X7_layOrder := Or.inl tb_1009
theorem ml_RX7_214 : ML RX7 214 m_X7_wavesAt := Or.inl tb_1033
theorem ml_RX7_217 : ML RX7 217 m_X7_isSo := Or.inl tb_1053
