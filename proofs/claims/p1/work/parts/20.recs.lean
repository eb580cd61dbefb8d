/-! Printed by wip/p1/gen2.py: the methods and the places of their words -/
def zrc0 : List zR := [((yX11_init, cX11_init, 1, (Option.none : Option Jvm.ClassFile.FieldType)), (0, 100), (0, 21), (0, 1), (0, 20), (0, 0)),
  ((yX11_init, cX11_init, 1, (Option.none : Option Jvm.ClassFile.FieldType)), (0, 100), (0, 21), (0, 1), (0, 20), (0, 0)),
  ((yX12_init, cX12_init, 1, (Option.none : Option Jvm.ClassFile.FieldType)), (0, 100), (4, 32), (0, 10), (4, 31), (0, 0)),
  ((yX11_begin, cX11_begin, 4, (Option.some Jvm.ClassFile.FieldType.int)), (2, 12), (1, 24), (0, 1), (1, 22), (1, 23)),
  ((yX12_begin, cX12_begin, 5, (Option.some Jvm.ClassFile.FieldType.int)), (2, 13), (5, 39), (0, 10), (5, 37), (5, 38)),
  ((yX11_wish, cX11_wish, 5, (Option.some Jvm.ClassFile.FieldType.int)), (4, 12), (1, 35), (0, 1), (1, 33), (1, 34)),
  ((yX12_wish, cX12_wish, 5, (Option.some Jvm.ClassFile.FieldType.int)), (4, 13), (5, 52), (0, 10), (5, 50), (5, 51)),
  ((yX11_change, cX11_change, 4, (Option.some Jvm.ClassFile.FieldType.int)), (3, 12), (1, 56), (0, 1), (1, 54), (1, 55)),
  ((yX12_change, cX12_change, 4, (Option.some Jvm.ClassFile.FieldType.int)), (3, 13), (5, 72), (0, 10), (5, 70), (5, 71)),
  ((yX11_need, cX11_need, 4, (Option.some Jvm.ClassFile.FieldType.int)), (3, 12), (1, 60), (0, 1), (1, 58), (1, 59)),
  ((yX12_need, cX12_need, 4, (Option.some Jvm.ClassFile.FieldType.int)), (3, 13), (5, 76), (0, 10), (5, 74), (5, 75)),
  ((yX11_wished, cX11_wished, 4, (Option.some Jvm.ClassFile.FieldType.int)), (3, 12), (1, 64), (0, 1), (1, 62), (1, 63)),
  ((yX12_wished, cX12_wished, 4, (Option.some Jvm.ClassFile.FieldType.int)), (3, 13), (5, 80), (0, 10), (5, 78), (5, 79)),
  ((yX11_changed, cX11_changed, 3, (Option.some Jvm.ClassFile.FieldType.int)), (2, 12), (1, 68), (0, 1), (1, 66), (1, 67)),
  ((yX12_changed, cX12_changed, 3, (Option.some Jvm.ClassFile.FieldType.int)), (2, 13), (5, 84), (0, 10), (5, 82), (5, 83)),
  ((yX11_needed, cX11_needed, 3, (Option.some Jvm.ClassFile.FieldType.int)), (2, 12), (1, 72), (0, 1), (1, 70), (1, 71))]
def zrc1 : List zR := [((yX12_needed, cX12_needed, 3, (Option.some Jvm.ClassFile.FieldType.int)), (2, 13), (5, 88), (0, 10), (5, 86), (5, 87)),
  ((yX11_feed, cX11_feed, 2, (Option.some Jvm.ClassFile.FieldType.int)), (1, 12), (1, 76), (0, 1), (1, 74), (1, 75)),
  ((yX12_feed, cX12_feed, 2, (Option.some Jvm.ClassFile.FieldType.int)), (1, 13), (5, 92), (0, 10), (5, 90), (5, 91)),
  ((yX11_clear, cX11_clear, 1, (Option.some Jvm.ClassFile.FieldType.int)), (0, 12), (1, 84), (0, 1), (1, 82), (1, 83)),
  ((yX12_clear, cX12_clear, 2, (Option.some Jvm.ClassFile.FieldType.int)), (0, 13), (5, 97), (0, 10), (5, 95), (5, 96)),
  ((yX11_rule, cX11_rule, 4, (Option.some Jvm.ClassFile.FieldType.int)), (1, 12), (1, 92), (0, 1), (1, 90), (1, 91)),
  ((yX12_rule, cX12_rule, 4, (Option.some Jvm.ClassFile.FieldType.int)), (1, 13), (5, 101), (0, 10), (5, 99), (5, 100)),
  ((yX11_drop, cX11_drop, 1, (Option.some Jvm.ClassFile.FieldType.int)), (0, 12), (2, 127), (0, 1), (2, 125), (2, 126)),
  ((yX12_drop, cX12_drop, 2, (Option.some Jvm.ClassFile.FieldType.int)), (0, 13), (5, 107), (0, 10), (5, 105), (5, 106)),
  ((yX11_row, cX11_row, 5, (Option.some Jvm.ClassFile.FieldType.int)), (1, 12), (2, 139), (0, 1), (2, 137), (2, 138)),
  ((yX12_row_, cX12_row_, 4, (Option.some Jvm.ClassFile.FieldType.int)), (1, 13), (5, 136), (0, 10), (5, 134), (5, 135)),
  ((yX11_put, cX11_put, 4, (Option.some Jvm.ClassFile.FieldType.int)), (3, 12), (2, 172), (0, 1), (2, 170), (2, 171)),
  ((yX12_put, cX12_put, 4, (Option.some Jvm.ClassFile.FieldType.int)), (3, 13), (5, 148), (0, 10), (5, 146), (5, 147)),
  ((yX11_at, cX11_at, 3, (Option.some Jvm.ClassFile.FieldType.int)), (2, 12), (2, 176), (0, 1), (2, 174), (2, 175)),
  ((yX12_at, cX12_at, 3, (Option.some Jvm.ClassFile.FieldType.int)), (2, 13), (5, 152), (0, 10), (5, 150), (5, 151)),
  ((yX11_states, cX11_states, 3, (Option.some Jvm.ClassFile.FieldType.int)), (1, 12), (2, 181), (0, 1), (2, 179), (2, 180))]
def zrc2 : List zR := [((yX12_states, cX12_states, 2, (Option.some Jvm.ClassFile.FieldType.int)), (1, 13), (5, 111), (0, 10), (5, 109), (5, 110)),
  ((yX11_next, cX11_next, 3, (Option.some Jvm.ClassFile.FieldType.int)), (2, 12), (2, 186), (0, 1), (2, 184), (2, 185)),
  ((yX12_next, cX12_next, 3, (Option.some Jvm.ClassFile.FieldType.int)), (2, 13), (5, 119), (0, 10), (5, 117), (5, 118)),
  ((yX11_run, cX11_run, 1, (Option.some Jvm.ClassFile.FieldType.int)), (0, 12), (2, 192), (0, 1), (2, 190), (2, 191)),
  ((yX12_run, cX12_run, 2, (Option.some Jvm.ClassFile.FieldType.int)), (0, 13), (5, 124), (0, 10), (5, 122), (5, 123)),
  ((yX11_allows, cX11_allows, 4, (Option.some Jvm.ClassFile.FieldType.int)), (1, 12), (2, 200), (0, 1), (2, 198), (2, 199)),
  ((yX12_allows, cX12_allows, 3, (Option.some Jvm.ClassFile.FieldType.int)), (1, 13), (5, 132), (0, 10), (5, 130), (5, 131)),
  ((yX11_count, cX11_count, 3, (Option.some Jvm.ClassFile.FieldType.long)), (2, 12), (2, 204), (0, 1), (2, 202), (2, 203)),
  ((yX12_count, cX12_count, 3, (Option.some Jvm.ClassFile.FieldType.long)), (2, 13), (5, 156), (0, 10), (5, 154), (5, 155)),
  ((yX11_nth, cX11_nth, 4, (Option.some Jvm.ClassFile.FieldType.int)), (2, 12), (2, 225), (0, 1), (2, 223), (2, 224)),
  ((yX12_nth, cX12_nth, 9, (Option.some Jvm.ClassFile.FieldType.int)), (2, 13), (5, 169), (0, 10), (5, 167), (5, 168)),
  ((yX11_ahead, cX11_ahead, 8, (Option.some Jvm.ClassFile.FieldType.long)), (1, 12), (2, 233), (0, 1), (2, 231), (2, 232)),
  ((yX12_ahead, cX12_ahead, 8, (Option.some Jvm.ClassFile.FieldType.long)), (1, 13), (5, 177), (0, 10), (5, 175), (5, 176)),
  ((yX11_may, cX11_may, 6, (Option.some Jvm.ClassFile.FieldType.int)), (2, 12), (2, 237), (0, 1), (2, 235), (2, 236)),
  ((yX12_may, cX12_may, 6, (Option.some Jvm.ClassFile.FieldType.int)), (2, 13), (5, 181), (0, 10), (5, 179), (5, 180)),
  ((yX11_penalty, cX11_penalty, 2, (Option.some Jvm.ClassFile.FieldType.int)), (1, 12), (3, 1), (0, 1), (2, 239), (3, 0))]
def zrc3 : List zR := [((yX12_penalty, cX12_penalty, 2, (Option.some Jvm.ClassFile.FieldType.int)), (1, 13), (5, 185), (0, 10), (5, 183), (5, 184)),
  ((yX11_best, cX11_best, 3, (Option.some Jvm.ClassFile.FieldType.int)), (2, 12), (3, 5), (0, 1), (3, 3), (3, 4)),
  ((yX12_best, cX12_best, 4, (Option.some Jvm.ClassFile.FieldType.int)), (2, 13), (5, 189), (0, 10), (5, 187), (5, 188)),
  ((yX11_better, cX11_better, 4, (Option.some Jvm.ClassFile.FieldType.int)), (1, 12), (3, 41), (0, 1), (3, 39), (3, 40)),
  ((yX12_better, cX12_better, 5, (Option.some Jvm.ClassFile.FieldType.int)), (1, 13), (5, 213), (0, 10), (5, 211), (5, 212)),
  ((yX11_accepted, cX11_accepted, 2, (Option.some Jvm.ClassFile.FieldType.int)), (1, 12), (3, 45), (0, 1), (3, 43), (3, 44)),
  ((yX12_accepted, cX12_accepted, 4, (Option.some Jvm.ClassFile.FieldType.int)), (1, 13), (5, 217), (0, 10), (5, 215), (5, 216)),
  ((yX11_lacks, cX11_lacks, 3, (Option.some Jvm.ClassFile.FieldType.int)), (2, 12), (3, 60), (0, 1), (3, 58), (3, 59)),
  ((yX12_lacks, cX12_lacks, 3, (Option.some Jvm.ClassFile.FieldType.int)), (2, 13), (5, 225), (0, 10), (5, 223), (5, 224)),
  ((yX11_mend, cX11_mend, 2, (Option.some Jvm.ClassFile.FieldType.int)), (1, 12), (3, 80), (0, 1), (3, 78), (3, 79)),
  ((yX12_mend, cX12_mend, 2, (Option.some Jvm.ClassFile.FieldType.int)), (1, 13), (5, 237), (0, 10), (5, 235), (5, 236)),
  ((yX11_repair, cX11_repair, 3, (Option.some Jvm.ClassFile.FieldType.int)), (1, 12), (3, 105), (0, 1), (3, 103), (3, 104)),
  ((yX12_repair, cX12_repair, 3, (Option.some Jvm.ClassFile.FieldType.int)), (1, 13), (6, 5), (0, 10), (6, 3), (6, 4)),
  ((yX11_swap, cX11_swap, 5, (Option.some Jvm.ClassFile.FieldType.int)), (4, 12), (3, 109), (0, 1), (3, 107), (3, 108)),
  ((yX12_swap, cX12_swap, 5, (Option.some Jvm.ClassFile.FieldType.int)), (4, 13), (6, 10), (0, 10), (6, 8), (6, 9)),
  ((yX11_swaps, cX11_swaps, 6, (Option.some Jvm.ClassFile.FieldType.int)), (4, 12), (3, 139), (0, 1), (3, 137), (3, 138))]
def zrc4 : List zR := [((yX12_swaps, cX12_swaps, 6, (Option.some Jvm.ClassFile.FieldType.int)), (4, 13), (6, 23), (0, 10), (6, 21), (6, 22)),
  ((yX11_bestSwap, cX11_bestSwap, 2, (Option.some Jvm.ClassFile.FieldType.int)), (1, 12), (3, 148), (0, 1), (3, 146), (3, 147)),
  ((yX12_bestSwap, cX12_bestSwap, 2, (Option.some Jvm.ClassFile.FieldType.int)), (1, 13), (6, 31), (0, 10), (6, 29), (6, 30)),
  ((yX11_improve, cX11_improve, 3, (Option.some Jvm.ClassFile.FieldType.int)), (1, 12), (3, 164), (0, 1), (3, 162), (3, 163)),
  ((yX12_improve, cX12_improve, 3, (Option.some Jvm.ClassFile.FieldType.int)), (1, 13), (6, 40), (0, 10), (6, 38), (6, 39)),
  ((yX11_worst, cX11_worst, 3, (Option.some Jvm.ClassFile.FieldType.int)), (1, 12), (3, 168), (0, 1), (3, 166), (3, 167)),
  ((yX12_worst, cX12_worst, 7, (Option.some Jvm.ClassFile.FieldType.int)), (1, 13), (6, 45), (0, 10), (6, 43), (6, 44)),
  ((yX11_judge, cX11_judge, 6, (Option.some Jvm.ClassFile.FieldType.int)), (2, 12), (3, 177), (0, 1), (3, 175), (3, 176)),
  ((yX12_judge, cX12_judge, 5, (Option.some Jvm.ClassFile.FieldType.int)), (2, 13), (6, 68), (0, 10), (6, 66), (6, 67)),
  ((yX11_lay, cX11_lay, 6, (Option.some Jvm.ClassFile.FieldType.int)), (3, 12), (3, 201), (0, 1), (3, 199), (3, 200)),
  ((yX12_lay, cX12_lay, 5, (Option.some Jvm.ClassFile.FieldType.int)), (3, 13), (6, 72), (0, 10), (6, 70), (6, 71)),
  ((yX11_spell, cX11_spell, 4, (Option.some Jvm.ClassFile.FieldType.int)), (2, 12), (3, 209), (0, 1), (3, 207), (3, 208)),
  ((yX12_spell, cX12_spell, 4, (Option.some Jvm.ClassFile.FieldType.int)), (2, 13), (6, 76), (0, 10), (6, 74), (6, 75)),
  ((yX11_paper, cX11_paper, 2, (Option.some Jvm.ClassFile.FieldType.int)), (1, 12), (3, 224), (0, 1), (3, 222), (3, 223)),
  ((yX12_paper, cX12_paper, 2, (Option.some Jvm.ClassFile.FieldType.int)), (1, 13), (6, 83), (0, 10), (6, 81), (6, 82)),
  ((yX11_sums, cX11_sums, 3, (Option.some Jvm.ClassFile.FieldType.int)), (1, 12), (3, 228), (0, 1), (3, 226), (3, 227))]
def zrc5 : List zR := [((yX12_sums, cX12_sums, 2, (Option.some Jvm.ClassFile.FieldType.int)), (1, 13), (6, 87), (0, 10), (6, 85), (6, 86)),
  ((yX11_list, cX11_list, 3, (Option.some Jvm.ClassFile.FieldType.int)), (2, 12), (3, 236), (0, 1), (3, 234), (3, 235)),
  ((yX12_list, cX12_list, 4, (Option.some Jvm.ClassFile.FieldType.int)), (2, 13), (6, 49), (0, 10), (6, 47), (6, 48)),
  ((yX11_set, cX11_set, 5, (Option.some Jvm.ClassFile.FieldType.int)), (3, 12), (4, 10), (0, 1), (4, 8), (4, 9)),
  ((yX12_set, cX12_set, 5, (Option.some Jvm.ClassFile.FieldType.int)), (3, 13), (6, 56), (0, 10), (6, 54), (6, 55)),
  ((yX11_get, cX11_get, 3, (Option.some Jvm.ClassFile.FieldType.long)), (2, 12), (4, 14), (0, 1), (4, 12), (4, 13)),
  ((yX12_get, cX12_get, 3, (Option.some Jvm.ClassFile.FieldType.long)), (2, 13), (6, 64), (0, 10), (6, 62), (6, 63)),
  ((yX11_image, cX11_image, 1, (Option.some Jvm.ClassFile.FieldType.int)), (0, 12), (4, 18), (0, 1), (4, 16), (4, 17)),
  ((yX12_image, cX12_image, 1, (Option.some Jvm.ClassFile.FieldType.int)), (0, 13), (6, 95), (0, 10), (6, 93), (6, 94)),
  ((yX11_undo, cX11_undo, 1, (Option.some Jvm.ClassFile.FieldType.int)), (0, 12), (4, 27), (0, 1), (4, 25), (4, 26)),
  ((yX12_undo, cX12_undo, 1, (Option.some Jvm.ClassFile.FieldType.int)), (0, 13), (6, 102), (0, 10), (6, 100), (6, 101)),
  ((yX7_init, cX7_init, 1, (Option.none : Option Jvm.ClassFile.FieldType)), (0, 100), (0, 29), (0, 2), (0, 28), (0, 0)),
  ((yX9_init, cX9_init, 1, (Option.none : Option Jvm.ClassFile.FieldType)), (0, 100), (0, 106), (0, 4), (0, 105), (0, 0)),
  ((yX2_init, cX2_init, 1, (Option.none : Option Jvm.ClassFile.FieldType)), (0, 100), (0, 122), (0, 5), (0, 121), (0, 0)),
  ((yX10_init, cX10_init, 1, (Option.none : Option Jvm.ClassFile.FieldType)), (0, 100), (0, 136), (0, 6), (0, 135), (0, 0)),
  ((yX0_init, cX0_init, 1, (Option.none : Option Jvm.ClassFile.FieldType)), (0, 100), (0, 149), (0, 7), (0, 148), (0, 0))]
def zrc6 : List zR := [((yX5_init, cX5_init, 1, (Option.none : Option Jvm.ClassFile.FieldType)), (0, 100), (0, 170), (0, 8), (0, 169), (0, 0)),
  ((yX1_init, cX1_init, 1, (Option.none : Option Jvm.ClassFile.FieldType)), (0, 100), (0, 198), (0, 9), (0, 197), (0, 0)),
  ((yX12_builds, cX12_builds, 4, (Option.none : Option Jvm.ClassFile.FieldType)), (0, 13), (4, 37), (0, 10), (4, 36), (7, 36)),
  ((yX7_startAnew, cX7_startAnew, 3, (Option.none : Option Jvm.ClassFile.FieldType)), (2, 8), (1, 28), (0, 2), (1, 26), (1, 27)),
  ((yX12_in, cX12_in, 6, (Option.some Jvm.ClassFile.FieldType.boolean)), (3, 0), (5, 43), (0, 10), (5, 42), (0, 0)),
  ((yX12_becomes, cX12_becomes, 4, (Option.some Jvm.ClassFile.FieldType.int)), (2, 13), (5, 48), (0, 10), (5, 47), (7, 58)),
  ((yX7_hasPerson, cX7_hasPerson, 2, (Option.some Jvm.ClassFile.FieldType.boolean)), (1, 8), (1, 39), (0, 2), (1, 37), (1, 38)),
  ((yX7_hasDay, cX7_hasDay, 2, (Option.some Jvm.ClassFile.FieldType.boolean)), (1, 8), (1, 43), (0, 2), (1, 41), (1, 42)),
  ((yX11_isShift, cX11_isShift, 1, (Option.some Jvm.ClassFile.FieldType.boolean)), (1, 0), (1, 46), (0, 1), (1, 45), (0, 0)),
  ((yX11_wishPlace, cX11_wishPlace, 3, (Option.some Jvm.ClassFile.FieldType.int)), (3, 0), (1, 49), (0, 1), (1, 48), (0, 0)),
  ((yX11_exchange, cX11_exchange, 4, (Option.some Jvm.ClassFile.FieldType.int)), (3, 0), (1, 52), (0, 1), (1, 51), (0, 0)),
  ((yX12_isOne, cX12_isOne, 2, (Option.some Jvm.ClassFile.FieldType.boolean)), (1, 13), (5, 56), (0, 10), (5, 55), (7, 59)),
  ((yX12_isDay, cX12_isDay, 2, (Option.some Jvm.ClassFile.FieldType.boolean)), (1, 13), (5, 60), (0, 10), (5, 59), (7, 60)),
  ((yX12_isShift, cX12_isShift, 2, (Option.some Jvm.ClassFile.FieldType.boolean)), (1, 0), (5, 63), (0, 10), (5, 62), (0, 0)),
  ((yX12_wishAt, cX12_wishAt, 3, (Option.some Jvm.ClassFile.FieldType.int)), (3, 0), (5, 68), (0, 10), (5, 67), (0, 0)),
  ((yX9_add, cX9_add, 2, (Option.none : Option Jvm.ClassFile.FieldType)), (1, 10), (1, 80), (0, 4), (1, 78), (1, 79))]
def zrc7 : List zR := [((yX9_empty, cX9_empty, 2, (Option.some Jvm.ClassFile.FieldType.int)), (0, 10), (1, 88), (0, 4), (1, 86), (1, 87)),
  ((yX4_init, cX4_init, 1, (Option.none : Option Jvm.ClassFile.FieldType)), (0, 100), (1, 97), (0, 12), (1, 96), (0, 0)),
  ((yX6_faultOf, cX6_faultOf, 3, (Option.some Jvm.ClassFile.FieldType.int)), (1, 7), (1, 171), (0, 13), (1, 169), (1, 170)),
  ((yX11_addRule, cX11_addRule, 4, (Option.some Jvm.ClassFile.FieldType.int)), (1, 12), (1, 235), (0, 1), (1, 234), (7, 9)),
  ((yX12_reads, cX12_reads, 1, (Option.none : Option Jvm.ClassFile.FieldType)), (0, 13), (4, 41), (0, 10), (4, 40), (7, 37)),
  ((yX12_laysRaw, cX12_laysRaw, 5, (Option.none : Option Jvm.ClassFile.FieldType)), (1, 13), (4, 80), (0, 10), (4, 79), (7, 46)),
  ((yX12_least, cX12_least, 5, (Option.some Jvm.ClassFile.FieldType.boolean)), (1, 13), (4, 96), (0, 10), (4, 95), (7, 50)),
  ((yX12_joins, cX12_joins, 5, (Option.some Jvm.ClassFile.FieldType.boolean)), (0, 13), (4, 112), (0, 10), (4, 111), (7, 54)),
  ((yX7_dropRule, cX7_dropRule, 2, (Option.none : Option Jvm.ClassFile.FieldType)), (0, 8), (2, 131), (0, 2), (2, 129), (2, 130)),
  ((yX9_firstOther, cX9_firstOther, 2, (Option.some Jvm.ClassFile.FieldType.int)), (0, 10), (2, 143), (0, 4), (2, 141), (2, 142)),
  ((yX11_rosterPlace, cX11_rosterPlace, 2, (Option.some Jvm.ClassFile.FieldType.int)), (2, 0), (2, 148), (0, 1), (2, 147), (0, 0)),
  ((yX9_byteAt, cX9_byteAt, 2, (Option.some Jvm.ClassFile.FieldType.int)), (1, 10), (1, 196), (0, 4), (1, 194), (1, 195)),
  ((yX11_shiftOf, cX11_shiftOf, 1, (Option.some Jvm.ClassFile.FieldType.int)), (1, 0), (1, 210), (0, 1), (1, 209), (0, 0)),
  ((yX7_penaltyOf, cX7_penaltyOf, 5, (Option.some Jvm.ClassFile.FieldType.int)), (1, 8), (2, 154), (0, 2), (2, 152), (2, 153)),
  ((yX12_signOf, cX12_signOf, 1, (Option.some Jvm.ClassFile.FieldType.int)), (1, 0), (4, 68), (0, 10), (4, 67), (0, 0)),
  ((yX12_penaltyOf, cX12_penaltyOf, 5, (Option.some Jvm.ClassFile.FieldType.int)), (1, 13), (5, 140), (0, 10), (5, 139), (7, 63))]
def zrc8 : List zR := [((yX7_shiftAt, cX7_shiftAt, 3, (Option.some Jvm.ClassFile.FieldType.int)), (2, 8), (2, 158), (0, 2), (2, 156), (2, 157)),
  ((yX7_ruleAt, cX7_ruleAt, 2, (Option.some (Jvm.ClassFile.FieldType.object "RosterLanes$Rule"))), (1, 8), (2, 135), (0, 2), (2, 133), (2, 134)),
  ((yX12_isRule, cX12_isRule, 2, (Option.some Jvm.ClassFile.FieldType.boolean)), (1, 13), (5, 115), (0, 10), (5, 114), (7, 61)),
  ((yX3_accepts, cX3_accepts, 2, (Option.some Jvm.ClassFile.FieldType.boolean)), (1, 4), (2, 67), (0, 3), (2, 65), (2, 66)),
  ((yX3_after, cX3_after, 3, (Option.some Jvm.ClassFile.FieldType.int)), (2, 4), (2, 75), (0, 3), (2, 73), (2, 74)),
  ((yX12_nextIn, cX12_nextIn, 4, (Option.some Jvm.ClassFile.FieldType.int)), (3, 13), (4, 124), (0, 10), (4, 123), (7, 57)),
  ((yX11_readWord, cX11_readWord, 5, (Option.some Jvm.ClassFile.FieldType.int)), (1, 12), (2, 196), (0, 1), (2, 195), (7, 21)),
  ((yX12_runs, cX12_runs, 5, (Option.some Jvm.ClassFile.FieldType.int)), (1, 13), (5, 128), (0, 10), (5, 127), (7, 62)),
  ((yX10_lookAt, cX10_lookAt, 6, (Option.none : Option Jvm.ClassFile.FieldType)), (1, 11), (2, 209), (0, 6), (2, 207), (2, 208)),
  ((yX7_stateAhead, cX7_stateAhead, 5, (Option.some Jvm.ClassFile.FieldType.int)), (2, 8), (2, 219), (0, 2), (2, 217), (2, 218)),
  ((yX10_behind, cX10_behind, 3, (Option.some Jvm.ClassFile.FieldType.int)), (2, 11), (2, 215), (0, 6), (2, 213), (2, 214)),
  ((yX12_reckons, cX12_reckons, 7, (Option.none : Option Jvm.ClassFile.FieldType)), (0, 13), (5, 161), (0, 10), (5, 160), (7, 65)),
  ((yX12_stateOf, cX12_stateOf, 5, (Option.some Jvm.ClassFile.FieldType.int)), (2, 13), (5, 165), (0, 10), (5, 164), (7, 66)),
  ((yX10_shiftOfNth, cX10_shiftOfNth, 11, (Option.some Jvm.ClassFile.FieldType.int)), (3, 11), (2, 229), (0, 6), (2, 227), (2, 228)),
  ((yX12_waysBy, cX12_waysBy, 4, (Option.some Jvm.ClassFile.FieldType.long)), (3, 13), (5, 173), (0, 10), (5, 172), (7, 67)),
  ((yX12_shiftOf, cX12_shiftOf, 4, (Option.some Jvm.ClassFile.FieldType.int)), (2, 13), (5, 144), (0, 10), (5, 143), (7, 64))]
def zrc9 : List zR := [((yX0_find, cX0_find, 4, (Option.some Jvm.ClassFile.FieldType.boolean)), (2, 1), (3, 9), (0, 7), (3, 7), (3, 8)),
  ((yX12_laysBest, cX12_laysBest, 6, (Option.some Jvm.ClassFile.FieldType.int)), (1, 13), (5, 193), (0, 10), (5, 192), (7, 68)),
  ((yX7_isLawful, cX7_isLawful, 2, (Option.some Jvm.ClassFile.FieldType.boolean)), (0, 8), (3, 49), (0, 2), (3, 47), (3, 48)),
  ((yX7_isAccepted, cX7_isAccepted, 2, (Option.some Jvm.ClassFile.FieldType.boolean)), (1, 8), (3, 53), (0, 2), (3, 51), (3, 52)),
  ((yX12_isAccepted, cX12_isAccepted, 2, (Option.some Jvm.ClassFile.FieldType.boolean)), (1, 13), (5, 221), (0, 10), (5, 220), (7, 72)),
  ((yX7_shortInAll, cX7_shortInAll, 4, (Option.some Jvm.ClassFile.FieldType.int)), (0, 8), (3, 64), (0, 2), (3, 62), (3, 63)),
  ((yX7_shortOf, cX7_shortOf, 3, (Option.some Jvm.ClassFile.FieldType.int)), (2, 8), (3, 68), (0, 2), (3, 66), (3, 67)),
  ((yX12_shortInAll, cX12_shortInAll, 3, (Option.some Jvm.ClassFile.FieldType.int)), (0, 13), (5, 229), (0, 10), (5, 228), (7, 73)),
  ((yX12_shortOf, cX12_shortOf, 5, (Option.some Jvm.ClassFile.FieldType.int)), (2, 13), (5, 233), (0, 10), (5, 232), (7, 74)),
  ((yX5_find, cX5_find, 4, (Option.some Jvm.ClassFile.FieldType.boolean)), (1, 6), (3, 84), (0, 8), (3, 82), (3, 83)),
  ((yX12_findMend, cX12_findMend, 11, (Option.none : Option Jvm.ClassFile.FieldType)), (0, 13), (6, 1), (0, 10), (6, 0), (7, 75)),
  ((yX11_isSwap, cX11_isSwap, 5, (Option.some Jvm.ClassFile.FieldType.boolean)), (4, 12), (3, 113), (0, 1), (3, 112), (7, 30)),
  ((yX1_gainIfItMay, cX1_gainIfItMay, 9, (Option.some Jvm.ClassFile.FieldType.int)), (5, 2), (3, 117), (0, 9), (3, 115), (3, 116)),
  ((yX12_isSwap, cX12_isSwap, 5, (Option.some Jvm.ClassFile.FieldType.boolean)), (4, 13), (6, 14), (0, 10), (6, 13), (7, 76)),
  ((yX12_gains, cX12_gains, 8, (Option.some Jvm.ClassFile.FieldType.int)), (4, 13), (6, 18), (0, 10), (6, 17), (7, 77)),
  ((yX7_exchangeDays, cX7_exchangeDays, 7, (Option.none : Option Jvm.ClassFile.FieldType)), (4, 8), (3, 144), (0, 2), (3, 142), (3, 143))]
def zrc10 : List zR := [((yX12_changes, cX12_changes, 7, (Option.none : Option Jvm.ClassFile.FieldType)), (4, 13), (6, 27), (0, 10), (6, 26), (7, 78)),
  ((yX1_find, cX1_find, 5, (Option.some Jvm.ClassFile.FieldType.boolean)), (1, 2), (3, 152), (0, 9), (3, 150), (3, 151)),
  ((yX12_findSwap, cX12_findSwap, 7, (Option.some Jvm.ClassFile.FieldType.boolean)), (0, 13), (6, 36), (0, 10), (6, 35), (7, 79)),
  ((yX7_worseThan, cX7_worseThan, 6, (Option.some Jvm.ClassFile.FieldType.int)), (1, 8), (3, 172), (0, 2), (3, 170), (3, 171)),
  ((yX2_isList, cX2_isList, 1, (Option.some Jvm.ClassFile.FieldType.boolean)), (1, 0), (3, 180), (0, 5), (3, 179), (0, 0)),
  ((yX2_holds, cX2_holds, 2, (Option.some Jvm.ClassFile.FieldType.boolean)), (1, 3), (3, 184), (0, 5), (3, 182), (3, 183)),
  ((yX2_sizeOf, cX2_sizeOf, 2, (Option.some Jvm.ClassFile.FieldType.int)), (1, 3), (3, 188), (0, 5), (3, 186), (3, 187)),
  ((yX2_valueAt, cX2_valueAt, 3, (Option.some Jvm.ClassFile.FieldType.long)), (2, 3), (3, 192), (0, 5), (3, 190), (3, 191)),
  ((yX11_dayLost, cX11_dayLost, 5, (Option.some Jvm.ClassFile.FieldType.int)), (2, 12), (3, 197), (0, 1), (3, 196), (7, 33)),
  ((yX12_isList, cX12_isList, 1, (Option.some Jvm.ClassFile.FieldType.boolean)), (1, 0), (6, 52), (0, 10), (6, 51), (0, 0)),
  ((yX2_setValue, cX2_setValue, 5, (Option.none : Option Jvm.ClassFile.FieldType)), (3, 3), (3, 205), (0, 5), (3, 203), (3, 204)),
  ((yX12_isPlace, cX12_isPlace, 4, (Option.some Jvm.ClassFile.FieldType.boolean)), (2, 13), (6, 60), (0, 10), (6, 59), (7, 80)),
  ((yX11_spellPattern, cX11_spellPattern, 3, (Option.some Jvm.ClassFile.FieldType.int)), (1, 12), (3, 213), (0, 1), (3, 212), (7, 34)),
  ((yX11_spellRow, cX11_spellRow, 3, (Option.some Jvm.ClassFile.FieldType.int)), (1, 12), (3, 217), (0, 1), (3, 216), (7, 35)),
  ((yX12_letterOf, cX12_letterOf, 1, (Option.some Jvm.ClassFile.FieldType.int)), (1, 0), (6, 79), (0, 10), (6, 78), (0, 0)),
  ((yX7_allPenalties, cX7_allPenalties, 3, (Option.some Jvm.ClassFile.FieldType.int)), (0, 8), (3, 232), (0, 2), (3, 230), (3, 231))]
def zrc11 : List zR := [((yX12_allPenalties, cX12_allPenalties, 3, (Option.some Jvm.ClassFile.FieldType.int)), (0, 13), (6, 91), (0, 10), (6, 90), (7, 81)),
  ((yX2_makeRow, cX2_makeRow, 3, (Option.none : Option Jvm.ClassFile.FieldType)), (2, 3), (4, 0), (0, 5), (3, 238), (3, 239)),
  ((yX7_takeAll, cX7_takeAll, 3, (Option.none : Option Jvm.ClassFile.FieldType)), (1, 8), (4, 22), (0, 2), (4, 20), (4, 21)),
  ((yX12_copies, cX12_copies, 3, (Option.none : Option Jvm.ClassFile.FieldType)), (2, 0), (6, 98), (0, 10), (6, 97), (0, 0)),
  ((yX3_init, cX3_init, 4, (Option.none : Option Jvm.ClassFile.FieldType)), (2, 100), (0, 37), (0, 3), (0, 36), (0, 0)),
  ((yJ7_fill_53178, cJ7_fill_53178, 4, (Option.none : Option Jvm.ClassFile.FieldType)), (2, 0), (1, 31), (0, 11), (1, 30), (0, 0)),
  ((yX6_init, cX6_init, 1, (Option.none : Option Jvm.ClassFile.FieldType)), (0, 100), (1, 103), (0, 13), (1, 102), (0, 0)),
  ((yX6_readChoice, cX6_readChoice, 4, (Option.some Jvm.ClassFile.FieldType.int)), (1, 7), (1, 176), (0, 13), (1, 175), (7, 0)),
  ((yX6_firstOf, cX6_firstOf, 1, (Option.some Jvm.ClassFile.FieldType.int)), (1, 0), (1, 224), (0, 13), (1, 223), (0, 0)),
  ((yX6_lastOf, cX6_lastOf, 1, (Option.some Jvm.ClassFile.FieldType.int)), (1, 0), (1, 221), (0, 13), (1, 220), (0, 0)),
  ((yX6_isOptional, cX6_isOptional, 1, (Option.some Jvm.ClassFile.FieldType.boolean)), (1, 0), (1, 231), (0, 13), (1, 230), (0, 0)),
  ((yX4_machineOfPattern, cX4_machineOfPattern, 7, (Option.some (Jvm.ClassFile.FieldType.object "RosterLanes$Machine"))), (1, 5), (1, 239), (0, 12), (1, 237), (1, 238)),
  ((yX4_machineOfAll, cX4_machineOfAll, 8, (Option.some (Jvm.ClassFile.FieldType.object "RosterLanes$Machine"))), (3, 5), (2, 59), (0, 12), (2, 57), (2, 58)),
  ((yX9_copyOfBytes, cX9_copyOfBytes, 1, (Option.some (Jvm.ClassFile.FieldType.array Jvm.ClassFile.FieldType.byte))), (0, 10), (2, 81), (0, 4), (2, 79), (2, 80)),
  ((yX8_init, cX8_init, 5, (Option.none : Option Jvm.ClassFile.FieldType)), (4, 100), (2, 100), (0, 14), (2, 99), (0, 0)),
  ((yX7_addRule, cX7_addRule, 2, (Option.some Jvm.ClassFile.FieldType.int)), (1, 8), (2, 123), (0, 2), (2, 121), (2, 122))]
def zrc12 : List zR := [((yX12_either, cX12_either, 3, (Option.some Jvm.ClassFile.FieldType.int)), (0, 13), (4, 45), (0, 10), (4, 44), (7, 38)),
  ((yX12_rawOf, cX12_rawOf, 3, (Option.some Jvm.ClassFile.FieldType.int)), (2, 13), (4, 84), (0, 10), (4, 83), (7, 47)),
  ((yX12_stepped, cX12_stepped, 7, (Option.some Jvm.ClassFile.FieldType.int)), (3, 13), (4, 92), (0, 10), (4, 91), (7, 49)),
  ((yX12_groups, cX12_groups, 4, (Option.some Jvm.ClassFile.FieldType.int)), (0, 13), (4, 100), (0, 10), (4, 99), (7, 51)),
  ((yX12_numbers, cX12_numbers, 7, (Option.none : Option Jvm.ClassFile.FieldType)), (1, 13), (4, 108), (0, 10), (4, 107), (7, 53)),
  ((yX12_spot, cX12_spot, 3, (Option.some Jvm.ClassFile.FieldType.int)), (0, 13), (4, 116), (0, 10), (4, 115), (7, 55)),
  ((yX7_wishOf, cX7_wishOf, 4, (Option.some Jvm.ClassFile.FieldType.int)), (3, 8), (2, 163), (0, 2), (2, 161), (2, 162)),
  ((yX7_changeOf, cX7_changeOf, 3, (Option.some Jvm.ClassFile.FieldType.int)), (2, 8), (2, 168), (0, 2), (2, 166), (2, 167)),
  ((yX0_weighEnds, cX0_weighEnds, 5, (Option.none : Option Jvm.ClassFile.FieldType)), (1, 1), (3, 13), (0, 7), (3, 12), (7, 22)),
  ((yX0_weighDay, cX0_weighDay, 7, (Option.none : Option Jvm.ClassFile.FieldType)), (3, 1), (3, 22), (0, 7), (3, 21), (7, 23)),
  ((yX0_weighOnward, cX0_weighOnward, 7, (Option.none : Option Jvm.ClassFile.FieldType)), (4, 1), (3, 26), (0, 7), (3, 25), (7, 24)),
  ((yX0_leastOnward, cX0_leastOnward, 7, (Option.some Jvm.ClassFile.FieldType.int)), (2, 1), (3, 32), (0, 7), (3, 31), (7, 25)),
  ((yX0_walk, cX0_walk, 6, (Option.none : Option Jvm.ClassFile.FieldType)), (2, 1), (3, 37), (0, 7), (3, 36), (7, 26)),
  ((yX12_leastOf, cX12_leastOf, 6, (Option.some Jvm.ClassFile.FieldType.int)), (1, 13), (5, 197), (0, 10), (5, 196), (7, 69)),
  ((yX12_leastShift, cX12_leastShift, 7, (Option.some Jvm.ClassFile.FieldType.int)), (4, 13), (5, 205), (0, 10), (5, 204), (7, 70)),
  ((yX7_howManyHave, cX7_howManyHave, 5, (Option.some Jvm.ClassFile.FieldType.int)), (2, 8), (3, 72), (0, 2), (3, 70), (3, 71))]
def zrc13 : List zR := [((yX5_countSpare, cX5_countSpare, 4, (Option.none : Option Jvm.ClassFile.FieldType)), (1, 6), (3, 88), (0, 8), (3, 87), (7, 27)),
  ((yX5_lookAtDay, cX5_lookAtDay, 7, (Option.none : Option Jvm.ClassFile.FieldType)), (3, 6), (3, 94), (0, 8), (3, 93), (7, 28)),
  ((yX1_seamGain, cX1_seamGain, 8, (Option.some Jvm.ClassFile.FieldType.int)), (4, 0), (3, 120), (0, 9), (3, 119), (0, 0)),
  ((yX1_wishGain, cX1_wishGain, 6, (Option.some Jvm.ClassFile.FieldType.int)), (4, 0), (3, 125), (0, 9), (3, 124), (0, 0)),
  ((yX1_bothAccepted, cX1_bothAccepted, 5, (Option.some Jvm.ClassFile.FieldType.boolean)), (5, 0), (3, 129), (0, 9), (3, 128), (0, 0)),
  ((yX1_weighPair, cX1_weighPair, 5, (Option.none : Option Jvm.ClassFile.FieldType)), (3, 2), (3, 156), (0, 9), (3, 155), (7, 31)),
  ((yX1_lookFrom, cX1_lookFrom, 8, (Option.none : Option Jvm.ClassFile.FieldType)), (4, 2), (3, 160), (0, 9), (3, 159), (7, 32)),
  ((yX11_letterOf, cX11_letterOf, 1, (Option.some Jvm.ClassFile.FieldType.int)), (1, 0), (3, 220), (0, 1), (3, 219), (0, 0)),
  ((yJ7_fill_bad5a, cJ7_fill_bad5a, 6, (Option.none : Option Jvm.ClassFile.FieldType)), (4, 0), (4, 3), (0, 11), (4, 2), (0, 0)),
  ((yX6_readChain, cX6_readChain, 5, (Option.some Jvm.ClassFile.FieldType.int)), (1, 7), (1, 180), (0, 13), (1, 179), (7, 1)),
  ((yX6_signHere, cX6_signHere, 1, (Option.some Jvm.ClassFile.FieldType.int)), (0, 7), (1, 192), (0, 13), (1, 191), (7, 4)),
  ((yX6_hasLetterLeft, cX6_hasLetterLeft, 1, (Option.some Jvm.ClassFile.FieldType.boolean)), (0, 7), (1, 204), (0, 13), (1, 203), (7, 6)),
  ((yX6_startOf, cX6_startOf, 2, (Option.some Jvm.ClassFile.FieldType.int)), (1, 7), (2, 3), (0, 13), (2, 1), (2, 2)),
  ((yX4_startWith, cX4_startWith, 2, (Option.none : Option Jvm.ClassFile.FieldType)), (1, 5), (2, 15), (0, 12), (2, 14), (7, 11)),
  ((yX6_lettersBehind, cX6_lettersBehind, 4, (Option.some Jvm.ClassFile.FieldType.int)), (1, 7), (2, 29), (0, 13), (2, 27), (2, 28)),
  ((yX6_isMatch, cX6_isMatch, 2, (Option.some Jvm.ClassFile.FieldType.boolean)), (1, 7), (2, 11), (0, 13), (2, 9), (2, 10))]
def zrc14 : List zR := [((yX6_after, cX6_after, 6, (Option.some Jvm.ClassFile.FieldType.int)), (4, 7), (2, 34), (0, 13), (2, 32), (2, 33)),
  ((yX4_placeOf, cX4_placeOf, 6, (Option.some Jvm.ClassFile.FieldType.int)), (2, 5), (2, 20), (0, 12), (2, 19), (7, 12)),
  ((yX4_leastMachine, cX4_leastMachine, 3, (Option.some (Jvm.ClassFile.FieldType.object "RosterLanes$Machine"))), (0, 5), (2, 38), (0, 12), (2, 37), (7, 14)),
  ((yX4_allAccept, cX4_allAccept, 4, (Option.some Jvm.ClassFile.FieldType.boolean)), (2, 5), (2, 63), (0, 12), (2, 62), (7, 19)),
  ((yX4_allAfter, cX4_allAfter, 6, (Option.some Jvm.ClassFile.FieldType.int)), (3, 5), (2, 71), (0, 12), (2, 70), (7, 20)),
  ((yJ7_copyOf_9075b, cJ7_copyOf_9075b, 3, (Option.some (Jvm.ClassFile.FieldType.array Jvm.ClassFile.FieldType.byte))), (2, 0), (2, 84), (0, 11), (2, 83), (0, 0)),
  ((yX12_row, cX12_row, 5, (Option.some Jvm.ClassFile.FieldType.int)), (0, 13), (4, 49), (0, 10), (4, 48), (7, 39)),
  ((yX12_here, cX12_here, 1, (Option.some Jvm.ClassFile.FieldType.int)), (0, 13), (4, 65), (0, 10), (4, 64), (7, 43)),
  ((yX12_part, cX12_part, 4, (Option.some Jvm.ClassFile.FieldType.int)), (3, 13), (4, 72), (0, 10), (4, 71), (7, 44)),
  ((yX12_isGood, cX12_isGood, 3, (Option.some Jvm.ClassFile.FieldType.boolean)), (2, 13), (4, 88), (0, 10), (4, 87), (7, 48)),
  ((yX12_isAlike, cX12_isAlike, 5, (Option.some Jvm.ClassFile.FieldType.boolean)), (2, 13), (4, 104), (0, 10), (4, 103), (7, 52)),
  ((yX12_isSpot, cX12_isSpot, 4, (Option.some Jvm.ClassFile.FieldType.boolean)), (1, 13), (4, 120), (0, 10), (4, 119), (7, 56)),
  ((yX0_costPlace, cX0_costPlace, 3, (Option.some Jvm.ClassFile.FieldType.int)), (3, 0), (3, 18), (0, 7), (3, 17), (0, 0)),
  ((yX12_costAt, cX12_costAt, 3, (Option.some Jvm.ClassFile.FieldType.int)), (3, 0), (5, 200), (0, 10), (5, 199), (0, 0)),
  ((yX12_costBy, cX12_costBy, 7, (Option.some Jvm.ClassFile.FieldType.int)), (5, 13), (5, 209), (0, 10), (5, 208), (7, 71)),
  ((yX5_lookAtRow, cX5_lookAtRow, 5, (Option.none : Option Jvm.ClassFile.FieldType)), (3, 6), (3, 99), (0, 8), (3, 98), (7, 29))]
def zrc15 : List zR := [((yX1_isMixAccepted, cX1_isMixAccepted, 7, (Option.some Jvm.ClassFile.FieldType.boolean)), (5, 0), (3, 132), (0, 9), (3, 131), (0, 0)),
  ((yJ7_rangeCheck_23922, cJ7_rangeCheck_23922, 3, (Option.none : Option Jvm.ClassFile.FieldType)), (3, 0), (4, 6), (0, 11), (4, 5), (0, 0)),
  ((yX6_readRepeat, cX6_readRepeat, 4, (Option.some Jvm.ClassFile.FieldType.int)), (1, 7), (1, 184), (0, 13), (1, 183), (7, 2)),
  ((yX6_beginsPart, cX6_beginsPart, 1, (Option.some Jvm.ClassFile.FieldType.boolean)), (1, 0), (1, 207), (0, 13), (1, 206), (0, 0)),
  ((yX6_oneBehind, cX6_oneBehind, 5, (Option.some Jvm.ClassFile.FieldType.int)), (2, 7), (1, 228), (0, 13), (1, 227), (7, 8)),
  ((yX6_settle, cX6_settle, 3, (Option.some Jvm.ClassFile.FieldType.int)), (2, 7), (2, 7), (0, 13), (2, 6), (7, 10)),
  ((yX4_addPlace, cX4_addPlace, 4, (Option.some Jvm.ClassFile.FieldType.int)), (3, 5), (2, 25), (0, 12), (2, 24), (7, 13)),
  ((yX4_refine, cX4_refine, 4, (Option.some Jvm.ClassFile.FieldType.boolean)), (0, 5), (2, 42), (0, 12), (2, 41), (7, 15)),
  ((yX4_machineOfClasses, cX4_machineOfClasses, 7, (Option.some (Jvm.ClassFile.FieldType.object "RosterLanes$Machine"))), (0, 5), (2, 54), (0, 12), (2, 53), (7, 18)),
  ((yX12_piece, cX12_piece, 3, (Option.some Jvm.ClassFile.FieldType.int)), (0, 13), (4, 53), (0, 10), (4, 52), (7, 40)),
  ((yX12_mayBegin, cX12_mayBegin, 2, (Option.some Jvm.ClassFile.FieldType.boolean)), (0, 13), (4, 61), (0, 10), (4, 60), (7, 42)),
  ((yX12_links, cX12_links, 4, (Option.none : Option Jvm.ClassFile.FieldType)), (2, 13), (4, 76), (0, 10), (4, 75), (7, 45)),
  ((yX6_readAtom, cX6_readAtom, 5, (Option.some Jvm.ClassFile.FieldType.int)), (1, 7), (1, 188), (0, 13), (1, 187), (7, 3)),
  ((yX6_link, cX6_link, 4, (Option.none : Option Jvm.ClassFile.FieldType)), (2, 7), (1, 218), (0, 13), (1, 217), (7, 7)),
  ((yX6_partOf, cX6_partOf, 3, (Option.some Jvm.ClassFile.FieldType.int)), (3, 0), (1, 213), (0, 13), (1, 212), (0, 0)),
  ((yX4_classOf, cX4_classOf, 5, (Option.some Jvm.ClassFile.FieldType.int)), (1, 5), (2, 46), (0, 12), (2, 45), (7, 16))]
def zrc16 : List zR := [((yX12_atom, cX12_atom, 3, (Option.some Jvm.ClassFile.FieldType.int)), (0, 13), (4, 57), (0, 10), (4, 56), (7, 41)),
  ((yX6_readBracket, cX6_readBracket, 3, (Option.some Jvm.ClassFile.FieldType.int)), (1, 7), (1, 200), (0, 13), (1, 199), (7, 5)),
  ((yX4_addSign, cX4_addSign, 3, (Option.some Jvm.ClassFile.FieldType.int)), (2, 5), (2, 50), (0, 12), (2, 49), (7, 17))]
def zRR : List (List zR) := [zrc0, zrc1, zrc2, zrc3, zrc4, zrc5, zrc6, zrc7, zrc8, zrc9, zrc10, zrc11, zrc12, zrc13, zrc14, zrc15, zrc16]
def zrr (a : Nat) : zR := (zRR.getD (a / 16) []).getD (a % 16) ((yL_law, cL_law, 0, none), (0, 0), (0, 0), (0, 0), (0, 0), (0, 0))
theorem zkr0 : (List.range 16).all (fun i => zkR (zrr (0 + i))) = true := by decide +kernel
theorem zkr1 : (List.range 16).all (fun i => zkR (zrr (16 + i))) = true := by decide +kernel
theorem zkr2 : (List.range 16).all (fun i => zkR (zrr (32 + i))) = true := by decide +kernel
theorem zkr3 : (List.range 16).all (fun i => zkR (zrr (48 + i))) = true := by decide +kernel
theorem zkr4 : (List.range 16).all (fun i => zkR (zrr (64 + i))) = true := by decide +kernel
theorem zkr5 : (List.range 16).all (fun i => zkR (zrr (80 + i))) = true := by decide +kernel
theorem zkr6 : (List.range 16).all (fun i => zkR (zrr (96 + i))) = true := by decide +kernel
theorem zkr7 : (List.range 16).all (fun i => zkR (zrr (112 + i))) = true := by decide +kernel
theorem zkr8 : (List.range 16).all (fun i => zkR (zrr (128 + i))) = true := by decide +kernel
theorem zkr9 : (List.range 16).all (fun i => zkR (zrr (144 + i))) = true := by decide +kernel
theorem zkr10 : (List.range 16).all (fun i => zkR (zrr (160 + i))) = true := by decide +kernel
theorem zkr11 : (List.range 16).all (fun i => zkR (zrr (176 + i))) = true := by decide +kernel
theorem zkr12 : (List.range 16).all (fun i => zkR (zrr (192 + i))) = true := by decide +kernel
theorem zkr13 : (List.range 16).all (fun i => zkR (zrr (208 + i))) = true := by decide +kernel
theorem zkr14 : (List.range 16).all (fun i => zkR (zrr (224 + i))) = true := by decide +kernel
theorem zkr15 : (List.range 16).all (fun i => zkR (zrr (240 + i))) = true := by decide +kernel
theorem zkr16 : (List.range 3).all (fun i => zkR (zrr (256 + i))) = true := by decide +kernel
theorem zkr : ∀ a, a < 259 → zkR (zrr a) = true := by
  intro a ha
  have key : ∀ n lo, (List.range n).all (fun i => zkR (zrr (lo + i))) = true → lo ≤ a → a < lo + n → zkR (zrr a) = true := by
    intro n lo h h1 h2
    have := List.all_eq_true.mp h (a - lo) (List.mem_range.mpr (by omega))
    rw [show lo + (a - lo) = a by omega] at this
    exact this
  rcases Nat.lt_or_ge a 16 with h | h0
  · exact key _ _ zkr0 (by omega) (by omega)
  rcases Nat.lt_or_ge a 32 with h | h1
  · exact key _ _ zkr1 (by omega) (by omega)
  rcases Nat.lt_or_ge a 48 with h | h2
  · exact key _ _ zkr2 (by omega) (by omega)
  rcases Nat.lt_or_ge a 64 with h | h3
  · exact key _ _ zkr3 (by omega) (by omega)
  rcases Nat.lt_or_ge a 80 with h | h4
  · exact key _ _ zkr4 (by omega) (by omega)
  rcases Nat.lt_or_ge a 96 with h | h5
  · exact key _ _ zkr5 (by omega) (by omega)
  rcases Nat.lt_or_ge a 112 with h | h6
  · exact key _ _ zkr6 (by omega) (by omega)
  rcases Nat.lt_or_ge a 128 with h | h7
  · exact key _ _ zkr7 (by omega) (by omega)
  rcases Nat.lt_or_ge a 144 with h | h8
  · exact key _ _ zkr8 (by omega) (by omega)
  rcases Nat.lt_or_ge a 160 with h | h9
  · exact key _ _ zkr9 (by omega) (by omega)
  rcases Nat.lt_or_ge a 176 with h | h10
  · exact key _ _ zkr10 (by omega) (by omega)
  rcases Nat.lt_or_ge a 192 with h | h11
  · exact key _ _ zkr11 (by omega) (by omega)
  rcases Nat.lt_or_ge a 208 with h | h12
  · exact key _ _ zkr12 (by omega) (by omega)
  rcases Nat.lt_or_ge a 224 with h | h13
  · exact key _ _ zkr13 (by omega) (by omega)
  rcases Nat.lt_or_ge a 240 with h | h14
  · exact key _ _ zkr14 (by omega) (by omega)
  rcases Nat.lt_or_ge a 256 with h | h15
  · exact key _ _ zkr15 (by omega) (by omega)
  rcases Nat.lt_or_ge a 259 with h | h16
  · exact key _ _ zkr16 (by omega) (by omega)
  · omega
