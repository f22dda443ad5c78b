def sg0 : Sig := (⟨"", "", ""⟩, ⟨#[]⟩, 0, none, 0, 0, 0)
def sgX0_init : Sig := (yX0_init, cX0_init, 1, none, 1, 4, 484)
def sgX0_clear : Sig := (yX0_clear, cX0_clear, 1, none, 1, 0, 0)
def sgX0_add : Sig := (yX0_add, cX0_add, 3, none, 3, 0, 0)
def sgX0_endPart : Sig := (yX0_endPart, cX0_endPart, 2, none, 2, 0, 0)
def sgX0_truths : Sig := (yX0_truths, cX0_truths, 5, some .int, 3, 0, 0)
def sgX0_valueOf : Sig := (yX0_valueOf, cX0_valueOf, 6, some .int, 4, 0, 0)
def sgX0_step : Sig := (yX0_step, cX0_step, 6, none, 5, 0, 0)
def sgX0_joined : Sig := (yX0_joined, cX0_joined, 3, some .int, 3, 0, 0)
def sgX0_push : Sig := (yX0_push, cX0_push, 2, none, 2, 0, 0)
def sgX0_pop : Sig := (yX0_pop, cX0_pop, 1, some .int, 1, 0, 0)
def sgX1_init : Sig := (yX1_init, cX1_init, 3, none, 3, 0, 0)
def sgX1_readText : Sig := (yX1_readText, cX1_readText, 2, some .boolean, 1, 0, 0)
def sgX1_readToken : Sig := (yX1_readToken, cX1_readToken, 2, some .boolean, 2, 0, 0)
def sgX1_readOr : Sig := (yX1_readOr, cX1_readOr, 3, some .boolean, 2, 0, 0)
def sgX1_readAnd : Sig := (yX1_readAnd, cX1_readAnd, 3, some .boolean, 2, 0, 0)
def sgX1_readNot : Sig := (yX1_readNot, cX1_readNot, 2, some .boolean, 2, 0, 0)
def sgX1_readCompared : Sig := (yX1_readCompared, cX1_readCompared, 3, some .boolean, 2, 0, 0)
def sgX1_readSum : Sig := (yX1_readSum, cX1_readSum, 4, some .boolean, 2, 0, 0)
def sgX1_readTerm : Sig := (yX1_readTerm, cX1_readTerm, 3, some .boolean, 2, 0, 0)
def sgX1_readOne : Sig := (yX1_readOne, cX1_readOne, 3, some .boolean, 2, 0, 0)
def sgX1_readBracket : Sig := (yX1_readBracket, cX1_readBracket, 2, some .boolean, 2, 0, 0)
def sgX2_init : Sig := (yX2_init, cX2_init, 1, none, 1, 0, 0)
def sgX2_consider : Sig := (yX2_consider, cX2_consider, 6, none, 5, 0, 0)
def sgX3_init : Sig := (yX3_init, cX3_init, 2, none, 1, 4, 208)
def sgX3_isMissing : Sig := (yX3_isMissing, cX3_isMissing, 2, some .boolean, 2, 0, 0)
def sgX3_make : Sig := (yX3_make, cX3_make, 5, none, 4, 0, 0)
def sgX3_holds : Sig := (yX3_holds, cX3_holds, 3, some .boolean, 3, 0, 0)
def sgX3_holdsRun : Sig := (yX3_holdsRun, cX3_holdsRun, 4, some .boolean, 4, 0, 0)
def sgX3_read : Sig := (yX3_read, cX3_read, 3, some .int, 3, 0, 0)
def sgX3_write : Sig := (yX3_write, cX3_write, 6, none, 4, 0, 0)
def sgX3_move : Sig := (yX3_move, cX3_move, 7, none, 6, 0, 0)
def sgX4_init : Sig := (yX4_init, cX4_init, 1, none, 1, 3, 46)
def sgX4_become : Sig := (yX4_become, cX4_become, 4, none, 4, 0, 0)
def sgX4_append : Sig := (yX4_append, cX4_append, 4, none, 4, 0, 0)
def sgX4_sayingPart : Sig := (yX4_sayingPart, cX4_sayingPart, 3, some .int, 3, 0, 0)
def sgX4_becomeLike : Sig := (yX4_becomeLike, cX4_becomeLike, 3, none, 2, 0, 0)
def sgX5_init : Sig := (yX5_init, cX5_init, 2, none, 1, 3, 90)
def sgX5_add : Sig := (yX5_add, cX5_add, 4, none, 2, 0, 0)
def sgX5_side : Sig := (yX5_side, cX5_side, 4, some .int, 4, 0, 0)
def sgX5_costOf : Sig := (yX5_costOf, cX5_costOf, 3, some .int, 3, 0, 0)
def sgX6_init : Sig := (yX6_init, cX6_init, 1, none, 1, 1, 160)
def sgX6_append : Sig := (yX6_append, cX6_append, 2, none, 2, 0, 0)
def sgX6_start : Sig := (yX6_start, cX6_start, 1, none, 1, 0, 0)
def sgX6_advance : Sig := (yX6_advance, cX6_advance, 2, none, 1, 0, 0)
def sgX6_readWord : Sig := (yX6_readWord, cX6_readWord, 3, none, 1, 0, 0)
def sgX6_spells : Sig := (yX6_spells, cX6_spells, 3, some .boolean, 2, 0, 0)
def sgX6_readNumber : Sig := (yX6_readNumber, cX6_readNumber, 2, none, 1, 0, 0)
def sgX6_isBlank : Sig := (yX6_isBlank, cX6_isBlank, 1, some .boolean, 1, 0, 0)
def sgX6_isLetter : Sig := (yX6_isLetter, cX6_isLetter, 1, some .boolean, 1, 0, 0)
def sgX6_isDigit : Sig := (yX6_isDigit, cX6_isDigit, 1, some .boolean, 1, 0, 0)
def sgX6_isSign : Sig := (yX6_isSign, cX6_isSign, 1, some .boolean, 1, 0, 0)
def sgX7_init : Sig := (yX7_init, cX7_init, 1, none, 1, 26, 1072)
def sgX7_count : Sig := (yX7_count, cX7_count, 2, some .int, 2, 0, 0)
def sgX7_feed : Sig := (yX7_feed, cX7_feed, 8, some .int, 7, 0, 0)
def sgX7_text : Sig := (yX7_text, cX7_text, 3, some .int, 1, 0, 0)
def sgX7_force : Sig := (yX7_force, cX7_force, 3, some .int, 2, 0, 0)
def sgX7_asks : Sig := (yX7_asks, cX7_asks, 5, some .int, 5, 0, 0)
def sgX7_means : Sig := (yX7_means, cX7_means, 3, some .long, 3, 0, 0)
def sgX7_pairs : Sig := (yX7_pairs, cX7_pairs, 5, some .int, 2, 0, 0)
def sgX7_speaker : Sig := (yX7_speaker, cX7_speaker, 4, some .int, 3, 0, 0)
def sgX7_turn : Sig := (yX7_turn, cX7_turn, 5, some .int, 4, 0, 0)
def sgX7_told : Sig := (yX7_told, cX7_told, 3, some .int, 3, 0, 0)
def sgX7_say : Sig := (yX7_say, cX7_say, 4, some .int, 4, 0, 0)
def sgX7_unsay : Sig := (yX7_unsay, cX7_unsay, 1, some .int, 1, 0, 0)
def sgX7_said : Sig := (yX7_said, cX7_said, 3, some .int, 3, 0, 0)
def sgX7_worlds : Sig := (yX7_worlds, cX7_worlds, 1, some .long, 1, 0, 0)
def sgX7_behind : Sig := (yX7_behind, cX7_behind, 4, some .int, 3, 0, 0)
def sgX7_cannot : Sig := (yX7_cannot, cX7_cannot, 3, some .int, 1, 0, 0)
def sgX7_lies : Sig := (yX7_lies, cX7_lies, 3, some .int, 1, 0, 0)
def sgX7_least : Sig := (yX7_least, cX7_least, 5, some .int, 2, 0, 0)
def sgX7_mad : Sig := (yX7_mad, cX7_mad, 4, some .int, 2, 0, 0)
def sgX7_habit : Sig := (yX7_habit, cX7_habit, 9, some .long, 4, 0, 0)
def sgX7_kinds : Sig := (yX7_kinds, cX7_kinds, 5, some .int, 3, 0, 0)
def sgX7_ask : Sig := (yX7_ask, cX7_ask, 2, some .int, 2, 0, 0)
def sgX7_two : Sig := (yX7_two, cX7_two, 8, some .int, 2, 0, 0)
def sgX7_parts : Sig := (yX7_parts, cX7_parts, 7, some .long, 4, 0, 0)
def sgX7_hide : Sig := (yX7_hide, cX7_hide, 9, some .int, 4, 0, 0)
def sgX7_same : Sig := (yX7_same, cX7_same, 5, some .int, 4, 0, 0)
def sgX7_claims : Sig := (yX7_claims, cX7_claims, 5, some .int, 2, 0, 0)
def sgX7_settle : Sig := (yX7_settle, cX7_settle, 5, some .int, 2, 0, 0)
def sgX7_thrice : Sig := (yX7_thrice, cX7_thrice, 6, some .long, 4, 0, 0)
def sgX7_many : Sig := (yX7_many, cX7_many, 8, some .int, 2, 0, 0)
def sgX7_judge : Sig := (yX7_judge, cX7_judge, 5, some .int, 3, 0, 0)
def sgX7_film : Sig := (yX7_film, cX7_film, 4, some .int, 2, 0, 0)
def sgX7_drawn : Sig := (yX7_drawn, cX7_drawn, 3, some .int, 2, 0, 0)
def sgX7_mean : Sig := (yX7_mean, cX7_mean, 7, some .long, 4, 0, 0)
def sgX7_image : Sig := (yX7_image, cX7_image, 1, some .int, 1, 0, 0)
def sgX7_back : Sig := (yX7_back, cX7_back, 1, some .int, 1, 0, 0)
def sgX7_sheet : Sig := (yX7_sheet, cX7_sheet, 4, some .int, 4, 0, 0)
def sgX7_cell : Sig := (yX7_cell, cX7_cell, 4, some .int, 4, 0, 0)
def sgX7_copy : Sig := (yX7_copy, cX7_copy, 6, some .int, 6, 0, 0)
def sgX7_sayingsBy : Sig := (yX7_sayingsBy, cX7_sayingsBy, 8, some .int, 5, 0, 0)
def sgX7_taken : Sig := (yX7_taken, cX7_taken, 3, some .int, 3, 0, 0)
def sgX7_isBelow : Sig := (yX7_isBelow, cX7_isBelow, 2, some .boolean, 2, 0, 0)
def sgX7_isByte : Sig := (yX7_isByte, cX7_isByte, 1, some .boolean, 1, 0, 0)
def sgX7_isKind : Sig := (yX7_isKind, cX7_isKind, 1, some .boolean, 1, 0, 0)
def sgX7_isMore : Sig := (yX7_isMore, cX7_isMore, 1, some .boolean, 1, 0, 0)
def sgX7_isWorld : Sig := (yX7_isWorld, cX7_isWorld, 1, some .boolean, 1, 0, 0)
def sgX7_isText : Sig := (yX7_isText, cX7_isText, 2, some .boolean, 2, 0, 0)
def sgX7_isSpeaker : Sig := (yX7_isSpeaker, cX7_isSpeaker, 2, some .boolean, 2, 0, 0)
def sgX7_at : Sig := (yX7_at, cX7_at, 2, some .int, 2, 0, 0)
def sgX7_put : Sig := (yX7_put, cX7_put, 3, none, 3, 0, 0)
def sgX7_bit : Sig := (yX7_bit, cX7_bit, 2, some .int, 2, 0, 0)
def sgX7_bits : Sig := (yX7_bits, cX7_bits, 1, some .long, 1, 0, 0)
def sgX7_worldNumber : Sig := (yX7_worldNumber, cX7_worldNumber, 4, some .int, 2, 0, 0)
def sgX7_fewer : Sig := (yX7_fewer, cX7_fewer, 3, some .int, 2, 0, 0)
def sgX7_inLowestTerms : Sig := (yX7_inLowestTerms, cX7_inLowestTerms, 4, some .long, 3, 0, 0)
def sgX7_commonDivisor : Sig := (yX7_commonDivisor, cX7_commonDivisor, 6, some .int, 2, 0, 0)
def sgX7_canSay : Sig := (yX7_canSay, cX7_canSay, 5, some .int, 5, 0, 0)
def sgX7_turnsAt : Sig := (yX7_turnsAt, cX7_turnsAt, 3, some .boolean, 2, 0, 0)
def sgX7_onceOf : Sig := (yX7_onceOf, cX7_onceOf, 2, some .int, 2, 0, 0)
def sgX7_lawful : Sig := (yX7_lawful, cX7_lawful, 1, some .int, 1, 0, 0)
def sgX7_firstSaid : Sig := (yX7_firstSaid, cX7_firstSaid, 2, some .int, 2, 0, 0)
def sgX7_secondSaid : Sig := (yX7_secondSaid, cX7_secondSaid, 2, some .int, 2, 0, 0)
def sgX7_sayableNext : Sig := (yX7_sayableNext, cX7_sayableNext, 7, some .int, 5, 0, 0)
def sgX7_sayable : Sig := (yX7_sayable, cX7_sayable, 2, some .int, 2, 0, 0)
def sgX7_sayableAs : Sig := (yX7_sayableAs, cX7_sayableAs, 4, some .int, 3, 0, 0)
def sgX7_allSayableWere : Sig := (yX7_allSayableWere, cX7_allSayableWere, 5, some .int, 3, 0, 0)
def sgX7_fittingFirst : Sig := (yX7_fittingFirst, cX7_fittingFirst, 4, some .int, 2, 0, 0)
def sgX7_fitting : Sig := (yX7_fitting, cX7_fitting, 1, some .int, 1, 0, 0)
def sgX7_fittingWithout : Sig := (yX7_fittingWithout, cX7_fittingWithout, 4, some .int, 2, 0, 0)
def sgX7_fittingWereMad : Sig := (yX7_fittingWereMad, cX7_fittingWereMad, 5, some .int, 2, 0, 0)
def sgX7_misfits : Sig := (yX7_misfits, cX7_misfits, 4, some .int, 2, 0, 0)
def sgX7_isSure : Sig := (yX7_isSure, cX7_isSure, 3, some .boolean, 2, 0, 0)
def sgX7_thingsSure : Sig := (yX7_thingsSure, cX7_thingsSure, 5, some .int, 2, 0, 0)
def sgX7_findBest : Sig := (yX7_findBest, cX7_findBest, 5, some .boolean, 3, 0, 0)
def sgX7_worstOf : Sig := (yX7_worstOf, cX7_worstOf, 7, some .int, 5, 0, 0)
def sgX7_worstBehind : Sig := (yX7_worstBehind, cX7_worstBehind, 8, some .int, 4, 0, 0)
def sgX7_strangerAsks : Sig := (yX7_strangerAsks, cX7_strangerAsks, 11, some .int, 3, 0, 0)
def sgX7_answered : Sig := (yX7_answered, cX7_answered, 8, some .int, 4, 0, 0)
def sgX7_lotBehind : Sig := (yX7_lotBehind, cX7_lotBehind, 2, some .long, 1, 0, 0)
def sgX7_settles : Sig := (yX7_settles, cX7_settles, 8, some .boolean, 3, 0, 0)
def sgX7_markOf : Sig := (yX7_markOf, cX7_markOf, 5, some .int, 3, 0, 0)
def sgX7_rowFits : Sig := (yX7_rowFits, cX7_rowFits, 7, some .boolean, 4, 0, 0)
def sgX7_sayingTaken : Sig := (yX7_sayingTaken, cX7_sayingTaken, 3, some .int, 3, 0, 0)
def sgX7_speakerTaken : Sig := (yX7_speakerTaken, cX7_speakerTaken, 3, some .int, 3, 0, 0)
def sgX7_isOneOf : Sig := (yX7_isOneOf, cX7_isOneOf, 2, some .boolean, 2, 0, 0)
def sgX8_init : Sig := (yX8_init, cX8_init, 2, none, 1, 18, 2246)
def sgX8_in : Sig := (yX8_in, cX8_in, 3, some .boolean, 3, 0, 0)
def sgX8_within : Sig := (yX8_within, cX8_within, 3, some .int, 3, 0, 0)
def sgX8_isSpeaker : Sig := (yX8_isSpeaker, cX8_isSpeaker, 2, some .boolean, 2, 0, 0)
def sgX8_isOfTexts : Sig := (yX8_isOfTexts, cX8_isOfTexts, 2, some .boolean, 2, 0, 0)
def sgX8_isWorld : Sig := (yX8_isWorld, cX8_isWorld, 1, some .boolean, 1, 0, 0)
def sgX8_has : Sig := (yX8_has, cX8_has, 3, some .boolean, 2, 0, 0)
def sgX8_bitsOf : Sig := (yX8_bitsOf, cX8_bitsOf, 4, some .int, 1, 0, 0)
def sgX8_count : Sig := (yX8_count, cX8_count, 2, some .int, 2, 0, 0)
def sgX8_isByte : Sig := (yX8_isByte, cX8_isByte, 1, some .boolean, 1, 0, 0)
def sgX8_feed : Sig := (yX8_feed, cX8_feed, 8, some .int, 7, 0, 0)
def sgX8_wordFrom : Sig := (yX8_wordFrom, cX8_wordFrom, 6, some .int, 3, 0, 0)
def sgX8_next : Sig := (yX8_next, cX8_next, 3, none, 1, 0, 0)
def sgX8_rank : Sig := (yX8_rank, cX8_rank, 1, some .int, 1, 0, 0)
def sgX8_puts : Sig := (yX8_puts, cX8_puts, 2, none, 2, 0, 0)
def sgX8_unwinds : Sig := (yX8_unwinds, cX8_unwinds, 3, none, 2, 0, 0)
def sgX8_holds : Sig := (yX8_holds, cX8_holds, 2, none, 2, 0, 0)
def sgX8_opensOne : Sig := (yX8_opensOne, cX8_opensOne, 2, some .boolean, 2, 0, 0)
def sgX8_between : Sig := (yX8_between, cX8_between, 2, some .boolean, 2, 0, 0)
def sgX8_signOf : Sig := (yX8_signOf, cX8_signOf, 1, some .int, 1, 0, 0)
def sgX8_eRead : Sig := (yX8_eRead, cX8_eRead, 4, some .boolean, 1, 0, 0)
def sgX8_text : Sig := (yX8_text, cX8_text, 3, some .int, 1, 0, 0)
def sgX8_two : Sig := (yX8_two, cX8_two, 3, some .int, 3, 0, 0)
def sgX8_says : Sig := (yX8_says, cX8_says, 5, some .int, 2, 0, 0)
def sgX8_force : Sig := (yX8_force, cX8_force, 3, some .int, 2, 0, 0)
def sgX8_saysOf : Sig := (yX8_saysOf, cX8_saysOf, 7, some .int, 5, 0, 0)
def sgX8_asks : Sig := (yX8_asks, cX8_asks, 5, some .int, 5, 0, 0)
def sgX8_soIn : Sig := (yX8_soIn, cX8_soIn, 7, some .long, 4, 0, 0)
def sgX8_means : Sig := (yX8_means, cX8_means, 3, some .long, 3, 0, 0)
def sgX8_pairs : Sig := (yX8_pairs, cX8_pairs, 4, some .int, 2, 0, 0)
def sgX8_reads : Sig := (yX8_reads, cX8_reads, 2, none, 1, 0, 0)
def sgX8_once : Sig := (yX8_once, cX8_once, 2, some .long, 2, 0, 0)
def sgX8_isSo : Sig := (yX8_isSo, cX8_isSo, 2, some .boolean, 2, 0, 0)
def sgX8_speaker : Sig := (yX8_speaker, cX8_speaker, 3, some .int, 3, 0, 0)
def sgX8_turn : Sig := (yX8_turn, cX8_turn, 5, some .int, 4, 0, 0)
def sgX8_told : Sig := (yX8_told, cX8_told, 3, some .int, 3, 0, 0)
def sgX8_say : Sig := (yX8_say, cX8_say, 4, some .int, 4, 0, 0)
def sgX8_unsay : Sig := (yX8_unsay, cX8_unsay, 1, some .int, 1, 0, 0)
def sgX8_said : Sig := (yX8_said, cX8_said, 3, some .int, 3, 0, 0)
def sgX8_canSay : Sig := (yX8_canSay, cX8_canSay, 14, some .long, 7, 0, 0)
def sgX8_fits : Sig := (yX8_fits, cX8_fits, 5, some .long, 5, 0, 0)
def sgX8_fitsSaying : Sig := (yX8_fitsSaying, cX8_fitsSaying, 2, some .long, 2, 0, 0)
def sgX8_worldsOf : Sig := (yX8_worldsOf, cX8_worldsOf, 5, some .long, 2, 0, 0)
def sgX8_worldsNow : Sig := (yX8_worldsNow, cX8_worldsNow, 1, some .long, 1, 0, 0)
def sgX8_worlds : Sig := (yX8_worlds, cX8_worlds, 1, some .long, 1, 0, 0)
def sgX8_allIn : Sig := (yX8_allIn, cX8_allIn, 4, some .int, 1, 0, 0)
def sgX8_noneIn : Sig := (yX8_noneIn, cX8_noneIn, 4, some .int, 1, 0, 0)
def sgX8_leastOf : Sig := (yX8_leastOf, cX8_leastOf, 3, some .int, 1, 0, 0)
def sgX8_behind : Sig := (yX8_behind, cX8_behind, 5, some .int, 3, 0, 0)
def sgX8_cannot : Sig := (yX8_cannot, cX8_cannot, 2, some .int, 1, 0, 0)
def sgX8_findsFitting : Sig := (yX8_findsFitting, cX8_findsFitting, 2, none, 1, 0, 0)
def sgX8_without : Sig := (yX8_without, cX8_without, 5, some .long, 2, 0, 0)
def sgX8_lies : Sig := (yX8_lies, cX8_lies, 3, some .int, 1, 0, 0)
def sgX8_least : Sig := (yX8_least, cX8_least, 5, some .int, 2, 0, 0)
def sgX8_worldsMad : Sig := (yX8_worldsMad, cX8_worldsMad, 7, some .long, 2, 0, 0)
def sgX8_mad : Sig := (yX8_mad, cX8_mad, 5, some .int, 2, 0, 0)
def sgX8_lowest : Sig := (yX8_lowest, cX8_lowest, 11, some .long, 3, 0, 0)
def sgX8_habit : Sig := (yX8_habit, cX8_habit, 13, some .long, 4, 0, 0)
def sgX8_kinds : Sig := (yX8_kinds, cX8_kinds, 8, some .int, 3, 0, 0)
def sgX8_worstOf : Sig := (yX8_worstOf, cX8_worstOf, 8, some .int, 5, 0, 0)
def sgX8_findsQuestion : Sig := (yX8_findsQuestion, cX8_findsQuestion, 10, none, 3, 0, 0)
def sgX8_ask : Sig := (yX8_ask, cX8_ask, 2, some .int, 2, 0, 0)
def sgX8_worstBehind : Sig := (yX8_worstBehind, cX8_worstBehind, 3, some .int, 2, 0, 0)
def sgX8_two_ : Sig := (yX8_two_, cX8_two_, 12, some .int, 2, 0, 0)
def sgX8_parts : Sig := (yX8_parts, cX8_parts, 10, some .long, 4, 0, 0)
def sgX8_isSure : Sig := (yX8_isSure, cX8_isSure, 3, some .boolean, 2, 0, 0)
def sgX8_hide : Sig := (yX8_hide, cX8_hide, 10, some .int, 4, 0, 0)
def sgX8_same : Sig := (yX8_same, cX8_same, 8, some .int, 4, 0, 0)
def sgX8_claims : Sig := (yX8_claims, cX8_claims, 6, some .int, 2, 0, 0)
def sgX8_settles : Sig := (yX8_settles, cX8_settles, 9, some .boolean, 3, 0, 0)
def sgX8_settle : Sig := (yX8_settle, cX8_settle, 7, some .int, 2, 0, 0)
def sgX8_thrice : Sig := (yX8_thrice, cX8_thrice, 12, some .long, 4, 0, 0)
def sgX8_many : Sig := (yX8_many, cX8_many, 9, some .int, 2, 0, 0)
def sgX8_isRow : Sig := (yX8_isRow, cX8_isRow, 7, some .boolean, 4, 0, 0)
def sgX8_judge : Sig := (yX8_judge, cX8_judge, 4, some .int, 3, 0, 0)
def sgX8_film : Sig := (yX8_film, cX8_film, 3, some .int, 2, 0, 0)
def sgX8_worldAt : Sig := (yX8_worldAt, cX8_worldAt, 5, some .int, 2, 0, 0)
def sgX8_asksBy : Sig := (yX8_asksBy, cX8_asksBy, 15, some .int, 3, 0, 0)
def sgX8_drawn : Sig := (yX8_drawn, cX8_drawn, 4, some .int, 2, 0, 0)
def sgX8_mean : Sig := (yX8_mean, cX8_mean, 9, some .long, 4, 0, 0)
def sgX8_image : Sig := (yX8_image, cX8_image, 2, some .int, 1, 0, 0)
def sgX8_back : Sig := (yX8_back, cX8_back, 2, some .int, 1, 0, 0)
def sgX8_sheet : Sig := (yX8_sheet, cX8_sheet, 5, some .int, 4, 0, 0)
def sgX8_cell : Sig := (yX8_cell, cX8_cell, 4, some .int, 4, 0, 0)
def sgX8_copy : Sig := (yX8_copy, cX8_copy, 10, some .int, 6, 0, 0)
def sgX8_sayingsBy : Sig := (yX8_sayingsBy, cX8_sayingsBy, 9, some .int, 5, 0, 0)
def sgX8_isUnder : Sig := (yX8_isUnder, cX8_isUnder, 2, some .boolean, 2, 0, 0)
def sgX8_taken : Sig := (yX8_taken, cX8_taken, 3, some .int, 3, 0, 0)
def sgJ6_bitCount_0f7a4 : Sig := (yJ6_bitCount_0f7a4, cJ6_bitCount_0f7a4, 1, some .int, 1, 0, 0)
def sgJ9_max_7cf53 : Sig := (yJ9_max_7cf53, cJ9_max_7cf53, 2, some .int, 2, 0, 0)
def sgJ9_min_7cf53 : Sig := (yJ9_min_7cf53, cJ9_min_7cf53, 2, some .int, 2, 0, 0)
def sgJ0_length_8abf5 : Sig := (yJ0_length_8abf5, cJ0_length_8abf5, 1, some .int, 1, 0, 0)
def sgJ0_charAt_5068e : Sig := (yJ0_charAt_5068e, cJ0_charAt_5068e, 2, some .char, 2, 0, 0)
def sgJ0_coder_7d493 : Sig := (yJ0_coder_7d493, cJ0_coder_7d493, 1, some .byte, 1, 0, 0)
def sgJ0_isLatin1_aae02 : Sig := (yJ0_isLatin1_aae02, cJ0_isLatin1_aae02, 1, some .boolean, 1, 0, 0)
def sgJ0_checkIndex_df160 : Sig := (yJ0_checkIndex_df160, cJ0_checkIndex_df160, 2, none, 2, 0, 0)
def sgJ1_charAt_3b067 : Sig := (yJ1_charAt_3b067, cJ1_charAt_3b067, 2, some .char, 2, 0, 0)
def sgJ2_getChar_3b067 : Sig := (yJ2_getChar_3b067, cJ2_getChar_3b067, 2, some .char, 2, 0, 0)
def sgJ2_length_9d52b : Sig := (yJ2_length_9d52b, cJ2_length_9d52b, 1, some .int, 1, 0, 0)
def sgJ2_charAt_3b067 : Sig := (yJ2_charAt_3b067, cJ2_charAt_3b067, 2, some .char, 2, 0, 0)
def sgJ2_checkIndex_2214a : Sig := (yJ2_checkIndex_2214a, cJ2_checkIndex_2214a, 2, none, 2, 0, 0)
def sgJ3_checkIndex_8e157 : Sig := (yJ3_checkIndex_8e157, cJ3_checkIndex_8e157, 3, some .int, 3, 0, 0)
def sgL_law : Sig := (yL_law, cL_law, 4, some .boolean, 1, 0, 0)
theorem nw_list {ws : List Cond} (ps : List Nat) (hp : ws = ps.filterMap (fun i => lw_tbl[i]?)) (h : ws.all isNest = true) : ∀ w ∈ ws, w ∈ NWL := by
  intro w hw
  have h1 := List.all_eq_true.mp h w hw
  rw [hp] at hw
  obtain ⟨i, -, hi⟩ := List.mem_filterMap.mp hw
  exact List.mem_filter.mpr ⟨List.mem_of_getElem? hi, h1⟩
theorem rw_all {code : List Row} {ls : List (List Row)} {f : Row → Bool} (h : code = ls.flatten) (hl : ∀ q ∈ ls, q.all f = true) : code.all f = true := by
  rw [h, List.all_flatten]
  exact List.all_eq_true.mpr hl
theorem rw_nil {f : Row → Bool} : ∀ q ∈ ([] : List (List Row)), q.all f = true := fun _ h => by cases h
theorem rw_cons {a : List Row} {ls : List (List Row)} {f : Row → Bool} (h : a.all f = true) (hl : ∀ q ∈ ls, q.all f = true) : ∀ q ∈ a :: ls, q.all f = true := fun q hq => by
  rcases List.mem_cons.mp hq with rfl | hq
  · exact h
  · exact hl q hq
def kX0_init : List Row := [(.aload_n 0, 0, 1, 0, 0, 0, [], sg0),
  (.invokespecial 3, 1, 2, 0, 9, 0, [], sg0),
  (.aload_n 0, 4, 3, 0, 0, 0, [], sg0),
  (.sipush 160, 5, 4, 0, 0, 160, [], sg0),
  (.newarray .int, 8, 5, 0, 0, 0, [], sg0),
  (.putfield 9, 10, 6, 0, 0, 0, [], sg0),
  (.aload_n 0, 13, 7, 0, 0, 0, [], sg0),
  (.sipush 160, 14, 8, 0, 0, 160, [], sg0),
  (.newarray .int, 17, 9, 0, 0, 0, [], sg0),
  (.putfield 15, 19, 10, 0, 1, 0, [], sg0),
  (.aload_n 0, 22, 11, 0, 0, 0, [], sg0),
  (.iconst 4, 23, 12, 0, 0, 4, [], sg0),
  (.newarray .int, 24, 13, 0, 0, 0, [], sg0),
  (.putfield 18, 26, 14, 0, 2, 0, [], sg0),
  (.aload_n 0, 29, 15, 0, 0, 0, [], sg0),
  (.sipush 160, 30, 16, 0, 0, 160, [], sg0),
  (.newarray .int, 33, 17, 0, 0, 0, [], sg0),
  (.putfield 21, 35, 18, 0, 3, 0, [], sg0),
  (.return_, 38, 19, 0, 0, 0, [], sg0),
  (.nop, 39, 19, 0, 0, 0, [], sg0)]
set_option maxRecDepth 100000 in
theorem okX0_init : Chk sgX0_init kX0_init := ⟨by decide +kernel, tb_list [153, 116, 117, 147, 154, 147, 155, 147, 156, 147, 157] (by decide +kernel) (by decide +kernel), nw_list [] (by decide +kernel) (by decide +kernel), by decide +kernel⟩
def kX0_clear : List Row := [(.aload_n 0, 0, 1, 0, 0, 0, [], sg0),
  (.iconst 0, 1, 2, 0, 0, 0, [], sg0),
  (.putfield 24, 2, 3, 0, 4, 0, [], sg0),
  (.return_, 5, 4, 0, 0, 0, [], sg0),
  (.nop, 6, 4, 0, 0, 0, [], sg0)]
set_option maxRecDepth 100000 in
theorem okX0_clear : Chk sgX0_clear kX0_clear := ⟨by decide +kernel, tb_list [158] (by decide +kernel) (by decide +kernel), nw_list [] (by decide +kernel) (by decide +kernel), by decide +kernel⟩
def kX0_add : List Row := [(.aload_n 0, 0, 1, 0, 0, 0, [], sg0),
  (.getfield 24, 1, 2, 0, 4, 0, [], sg0),
  (.sipush 160, 4, 3, 0, 0, 160, [], sg0),
  (.if_icmp .lt 4, 7, 4, 5, 0, 0, [], sg0),
  (.return_, 10, 5, 0, 0, 0, [], sg0),
  (.aload_n 0, 11, 6, 0, 0, 0, [], sg0),
  (.getfield 9, 12, 7, 0, 0, 0, [], sg0),
  (.aload_n 0, 15, 8, 0, 0, 0, [], sg0),
  (.getfield 24, 16, 9, 0, 4, 0, [], sg0),
  (.iload_n 1, 19, 10, 0, 0, 0, [], sg0),
  (.invokestatic 28, 20, 11, 0, 0, 1, [], sgX7_put),
  (.aload_n 0, 23, 12, 0, 0, 0, [], sg0),
  (.getfield 15, 24, 13, 0, 1, 0, [], sg0),
  (.aload_n 0, 27, 14, 0, 0, 0, [], sg0),
  (.getfield 24, 28, 15, 0, 4, 0, [], sg0),
  (.iload_n 2, 31, 16, 0, 0, 0, [], sg0),
  (.invokestatic 28, 32, 17, 0, 0, 1, [], sgX7_put),
  (.aload_n 0, 35, 18, 0, 0, 0, [], sg0),
  (.dup, 36, 19, 0, 0, 0, [], sg0),
  (.getfield 24, 37, 20, 0, 4, 0, [], sg0),
  (.iconst 1, 40, 21, 0, 0, 1, [], sg0),
  (.iadd, 41, 22, 0, 0, 0, [], sg0),
  (.putfield 24, 42, 23, 0, 4, 0, [], sg0),
  (.return_, 45, 24, 0, 0, 0, [], sg0),
  (.nop, 46, 24, 0, 0, 0, [], sg0)]
set_option maxRecDepth 100000 in
theorem okX0_add : Chk sgX0_add kX0_add := ⟨by decide +kernel, tb_list [158, 154, 158, 193, 95, 194, 155, 158, 193, 95, 194, 158, 158] (by decide +kernel) (by decide +kernel), nw_list [467, 467] (by decide +kernel) (by decide +kernel), by decide +kernel⟩
def kX0_endPart : List Row := [(.aload_n 0, 0, 1, 0, 0, 0, [], sg0),
  (.getfield 18, 1, 2, 0, 2, 0, [], sg0),
  (.iload_n 1, 4, 3, 0, 0, 0, [], sg0),
  (.iconst 1, 5, 4, 0, 0, 1, [], sg0),
  (.iadd, 6, 5, 0, 0, 0, [], sg0),
  (.aload_n 0, 7, 6, 0, 0, 0, [], sg0),
  (.getfield 24, 8, 7, 0, 4, 0, [], sg0),
  (.invokestatic 28, 11, 8, 0, 0, 1, [], sgX7_put),
  (.return_, 14, 9, 0, 0, 0, [], sg0),
  (.nop, 15, 9, 0, 0, 0, [], sg0)]
set_option maxRecDepth 100000 in
theorem okX0_endPart : Chk sgX0_endPart kX0_endPart := ⟨by decide +kernel, tb_list [156, 158, 193, 95, 194] (by decide +kernel) (by decide +kernel), nw_list [467] (by decide +kernel) (by decide +kernel), by decide +kernel⟩
def kX0_truths : List Row := [(.iconst 0, 0, 1, 0, 0, 0, [], sg0),
  (.istore_n 3, 1, 2, 0, 0, 0, [], sg0),
  (.iconst 0, 2, 3, 0, 0, 0, [], sg0),
  (.istore 4, 3, 4, 0, 0, 0, [], sg0),
  (.iload 4, 5, 5, 0, 0, 0, [], sg0),
  (.bipush 32, 7, 6, 0, 0, 32, [], sg0),
  (.if_icmp .ge 27, 9, 7, 21, 0, 0, [], sg0),
  (.aload_n 0, 12, 8, 0, 0, 0, [], sg0),
  (.iload_n 1, 13, 9, 0, 0, 0, [], sg0),
  (.iload 4, 14, 10, 0, 0, 0, [], sg0),
  (.iload_n 2, 16, 11, 0, 0, 0, [], sg0),
  (.invokevirtual 32, 17, 12, 0, 0, 0, [], sgX0_valueOf),
  (.ifCond .eq 10, 20, 13, 19, 0, 0, [], sg0),
  (.iload_n 3, 23, 14, 0, 0, 0, [], sg0),
  (.iconst 1, 24, 15, 0, 0, 1, [], sg0),
  (.iload 4, 25, 16, 0, 0, 0, [], sg0),
  (.ishl, 27, 17, 0, 0, 0, [], sg0),
  (.ior, 28, 18, 0, 0, 0, [], sg0),
  (.istore_n 3, 29, 19, 0, 0, 0, [], sg0),
  (.iinc 4 1, 30, 20, 0, 0, 1, [], sg0),
  (.goto (-28), 33, 21, 4, 0, 0, [], sg0),
  (.iload_n 3, 36, 22, 0, 0, 0, [], sg0),
  (.ireturn, 37, 23, 0, 0, 0, [], sg0),
  (.nop, 38, 23, 0, 0, 0, [], sg0)]
set_option maxRecDepth 100000 in
theorem okX0_truths : Chk sgX0_truths kX0_truths := ⟨by decide +kernel, tb_list [484, 486, 21, 97, 487] (by decide +kernel) (by decide +kernel), nw_list [] (by decide +kernel) (by decide +kernel), by decide +kernel⟩
def kX0_valueOf : List Row := [(.aload_n 0, 0, 1, 0, 0, 0, [], sg0),
  (.iconst 0, 1, 2, 0, 0, 0, [], sg0),
  (.putfield 36, 2, 3, 0, 5, 0, [], sg0),
  (.aload_n 0, 5, 4, 0, 0, 0, [], sg0),
  (.getfield 18, 6, 5, 0, 2, 0, [], sg0),
  (.iload_n 1, 9, 6, 0, 0, 0, [], sg0),
  (.iconst 1, 10, 7, 0, 0, 1, [], sg0),
  (.iadd, 11, 8, 0, 0, 0, [], sg0),
  (.invokestatic 39, 12, 9, 0, 0, 1, [], sgX7_at),
  (.istore 4, 15, 10, 0, 0, 0, [], sg0),
  (.aload_n 0, 17, 11, 0, 0, 0, [], sg0),
  (.getfield 18, 18, 12, 0, 2, 0, [], sg0),
  (.iload_n 1, 21, 13, 0, 0, 0, [], sg0),
  (.invokestatic 39, 22, 14, 0, 0, 1, [], sgX7_at),
  (.istore 5, 25, 15, 0, 0, 0, [], sg0),
  (.iload 5, 27, 16, 0, 0, 0, [], sg0),
  (.iload 4, 29, 17, 0, 0, 0, [], sg0),
  (.if_icmp .ge 33, 31, 18, 32, 0, 0, [], sg0),
  (.aload_n 0, 34, 19, 0, 0, 0, [], sg0),
  (.aload_n 0, 35, 20, 0, 0, 0, [], sg0),
  (.getfield 9, 36, 21, 0, 0, 0, [], sg0),
  (.iload 5, 39, 22, 0, 0, 0, [], sg0),
  (.invokestatic 39, 41, 23, 0, 0, 1, [], sgX7_at),
  (.aload_n 0, 44, 24, 0, 0, 0, [], sg0),
  (.getfield 15, 45, 25, 0, 1, 0, [], sg0),
  (.iload 5, 48, 26, 0, 0, 0, [], sg0),
  (.invokestatic 39, 50, 27, 0, 0, 1, [], sgX7_at),
  (.iload_n 2, 53, 28, 0, 0, 0, [], sg0),
  (.iload_n 3, 54, 29, 0, 0, 0, [], sg0),
  (.invokevirtual 43, 55, 30, 0, 0, 0, [], sgX0_step),
  (.iinc 5 1, 58, 31, 0, 0, 1, [], sg0),
  (.goto (-34), 61, 32, 15, 0, 0, [], sg0),
  (.aload_n 0, 64, 33, 0, 0, 0, [], sg0),
  (.invokevirtual 47, 65, 34, 0, 0, 0, [], sgX0_pop),
  (.ireturn, 68, 35, 0, 0, 0, [], sg0),
  (.nop, 69, 35, 0, 0, 0, [], sg0)]
set_option maxRecDepth 100000 in
theorem okX0_valueOf : Chk sgX0_valueOf kX0_valueOf := ⟨by decide +kernel, tb_list [159, 156, 345, 95, 346, 156, 345, 95, 346, 154, 345, 95, 346, 155, 345, 95, 346, 489, 491, 22, 97, 492, 500, 502, 24, 97, 503] (by decide +kernel) (by decide +kernel), nw_list [488, 488, 488, 488] (by decide +kernel) (by decide +kernel), by decide +kernel⟩
def kX0_step : List Row := [(.iload_n 1, 0, 1, 0, 0, 0, [], sg0),
  (.tableswitch 112 2 10 #[51, 59, 112, 112, 112, 112, 112, 93, 81], 1, 2, 32, 0, 0, [2, 6, 32, 32, 32, 32, 32, 23, 17], sg0),
  (.aload_n 0, 52, 3, 0, 0, 0, [], sg0),
  (.iload_n 2, 53, 4, 0, 0, 0, [], sg0),
  (.invokevirtual 51, 54, 5, 0, 0, 0, [], sgX0_push),
  (.goto 76, 57, 6, 42, 0, 0, [], sg0),
  (.aload_n 0, 60, 7, 0, 0, 0, [], sg0),
  (.iload_n 2, 61, 8, 0, 0, 0, [], sg0),
  (.iconst 5, 62, 9, 0, 0, 5, [], sg0),
  (.if_icmp .ne 8, 63, 10, 12, 0, 0, [], sg0),
  (.iload 4, 66, 11, 0, 0, 0, [], sg0),
  (.goto 8, 68, 12, 15, 0, 0, [], sg0),
  (.iload_n 3, 71, 13, 0, 0, 0, [], sg0),
  (.iload_n 2, 72, 14, 0, 0, 0, [], sg0),
  (.invokestatic 55, 73, 15, 0, 0, 1, [], sgX7_bit),
  (.invokevirtual 51, 76, 16, 0, 0, 0, [], sgX0_push),
  (.goto 54, 79, 17, 42, 0, 0, [], sg0),
  (.aload_n 0, 82, 18, 0, 0, 0, [], sg0),
  (.aload_n 0, 83, 19, 0, 0, 0, [], sg0),
  (.invokevirtual 47, 84, 20, 0, 0, 0, [], sgX0_pop),
  (.ineg, 87, 21, 0, 0, 0, [], sg0),
  (.invokevirtual 51, 88, 22, 0, 0, 0, [], sgX0_push),
  (.goto 42, 91, 23, 42, 0, 0, [], sg0),
  (.aload_n 0, 94, 24, 0, 0, 0, [], sg0),
  (.aload_n 0, 95, 25, 0, 0, 0, [], sg0),
  (.invokevirtual 47, 96, 26, 0, 0, 0, [], sgX0_pop),
  (.ifCond .ne 7, 99, 27, 29, 0, 0, [], sg0),
  (.iconst 1, 102, 28, 0, 0, 1, [], sg0),
  (.goto 4, 103, 29, 30, 0, 0, [], sg0),
  (.iconst 0, 106, 30, 0, 0, 0, [], sg0),
  (.invokevirtual 51, 107, 31, 0, 0, 0, [], sgX0_push),
  (.goto 23, 110, 32, 42, 0, 0, [], sg0),
  (.aload_n 0, 113, 33, 0, 0, 0, [], sg0),
  (.invokevirtual 47, 114, 34, 0, 0, 0, [], sgX0_pop),
  (.istore 5, 117, 35, 0, 0, 0, [], sg0),
  (.aload_n 0, 119, 36, 0, 0, 0, [], sg0),
  (.iload_n 1, 120, 37, 0, 0, 0, [], sg0),
  (.aload_n 0, 121, 38, 0, 0, 0, [], sg0),
  (.invokevirtual 47, 122, 39, 0, 0, 0, [], sgX0_pop),
  (.iload 5, 125, 40, 0, 0, 0, [], sg0),
  (.invokestatic 59, 127, 41, 0, 0, 0, [], sgX0_joined),
  (.invokevirtual 51, 130, 42, 0, 0, 0, [], sgX0_push),
  (.return_, 133, 43, 0, 0, 0, [], sg0),
  (.nop, 134, 43, 0, 0, 0, [], sg0)]
set_option maxRecDepth 100000 in
theorem okX0_step : Chk sgX0_step kX0_step := ⟨by decide +kernel, tb_list [493, 495, 23, 97, 496, 498, 95, 499, 493, 495, 23, 97, 496, 500, 502, 24, 97, 503, 493, 495, 23, 97, 496, 500, 502, 24, 97, 503, 493, 495, 23, 97, 496, 500, 502, 24, 97, 503, 500, 502, 24, 97, 503, 504, 505, 97, 506, 493, 495, 23, 97, 496] (by decide +kernel) (by decide +kernel), nw_list [497] (by decide +kernel) (by decide +kernel), by decide +kernel⟩
def kX0_joined : List Row := [(.iload_n 0, 0, 1, 0, 0, 0, [], sg0),
  (.lookupswitch 107 #[(8, 93), (42, 67), (43, 59), (45, 63), (60, 71), (61, 82)], 1, 2, 36, 0, 0, [28, 10, 2, 6, 14, 21], sg0),
  (.iload_n 1, 60, 3, 0, 0, 0, [], sg0),
  (.iload_n 2, 61, 4, 0, 0, 0, [], sg0),
  (.iadd, 62, 5, 0, 0, 0, [], sg0),
  (.ireturn, 63, 6, 0, 0, 0, [], sg0),
  (.iload_n 1, 64, 7, 0, 0, 0, [], sg0),
  (.iload_n 2, 65, 8, 0, 0, 0, [], sg0),
  (.isub, 66, 9, 0, 0, 0, [], sg0),
  (.ireturn, 67, 10, 0, 0, 0, [], sg0),
  (.iload_n 1, 68, 11, 0, 0, 0, [], sg0),
  (.iload_n 2, 69, 12, 0, 0, 0, [], sg0),
  (.imul, 70, 13, 0, 0, 0, [], sg0),
  (.ireturn, 71, 14, 0, 0, 0, [], sg0),
  (.iload_n 1, 72, 15, 0, 0, 0, [], sg0),
  (.iload_n 2, 73, 16, 0, 0, 0, [], sg0),
  (.if_icmp .ge 7, 74, 17, 19, 0, 0, [], sg0),
  (.iconst 1, 77, 18, 0, 0, 1, [], sg0),
  (.goto 4, 78, 19, 20, 0, 0, [], sg0),
  (.iconst 0, 81, 20, 0, 0, 0, [], sg0),
  (.ireturn, 82, 21, 0, 0, 0, [], sg0),
  (.iload_n 1, 83, 22, 0, 0, 0, [], sg0),
  (.iload_n 2, 84, 23, 0, 0, 0, [], sg0),
  (.if_icmp .ne 7, 85, 24, 26, 0, 0, [], sg0),
  (.iconst 1, 88, 25, 0, 0, 1, [], sg0),
  (.goto 4, 89, 26, 27, 0, 0, [], sg0),
  (.iconst 0, 92, 27, 0, 0, 0, [], sg0),
  (.ireturn, 93, 28, 0, 0, 0, [], sg0),
  (.iload_n 1, 94, 29, 0, 0, 0, [], sg0),
  (.ifCond .eq 11, 95, 30, 34, 0, 0, [], sg0),
  (.iload_n 2, 98, 31, 0, 0, 0, [], sg0),
  (.ifCond .eq 7, 99, 32, 34, 0, 0, [], sg0),
  (.iconst 1, 102, 33, 0, 0, 1, [], sg0),
  (.goto 4, 103, 34, 35, 0, 0, [], sg0),
  (.iconst 0, 106, 35, 0, 0, 0, [], sg0),
  (.ireturn, 107, 36, 0, 0, 0, [], sg0),
  (.iload_n 1, 108, 37, 0, 0, 0, [], sg0),
  (.ifCond .ne 7, 109, 38, 40, 0, 0, [], sg0),
  (.iload_n 2, 112, 39, 0, 0, 0, [], sg0),
  (.ifCond .eq 7, 113, 40, 42, 0, 0, [], sg0),
  (.iconst 1, 116, 41, 0, 0, 1, [], sg0),
  (.goto 4, 117, 42, 43, 0, 0, [], sg0),
  (.iconst 0, 120, 43, 0, 0, 0, [], sg0),
  (.ireturn, 121, 44, 0, 0, 0, [], sg0),
  (.nop, 122, 44, 0, 0, 0, [], sg0)]
set_option maxRecDepth 100000 in
theorem okX0_joined : Chk sgX0_joined kX0_joined := ⟨by decide +kernel, tb_list [] (by decide +kernel) (by decide +kernel), nw_list [] (by decide +kernel) (by decide +kernel), by decide +kernel⟩
def kX0_push : List Row := [(.aload_n 0, 0, 1, 0, 0, 0, [], sg0),
  (.getfield 36, 1, 2, 0, 5, 0, [], sg0),
  (.sipush 160, 4, 3, 0, 0, 160, [], sg0),
  (.if_icmp .lt 4, 7, 4, 5, 0, 0, [], sg0),
  (.return_, 10, 5, 0, 0, 0, [], sg0),
  (.aload_n 0, 11, 6, 0, 0, 0, [], sg0),
  (.getfield 21, 12, 7, 0, 3, 0, [], sg0),
  (.aload_n 0, 15, 8, 0, 0, 0, [], sg0),
  (.getfield 36, 16, 9, 0, 5, 0, [], sg0),
  (.iload_n 1, 19, 10, 0, 0, 0, [], sg0),
  (.invokestatic 28, 20, 11, 0, 0, 1, [], sgX7_put),
  (.aload_n 0, 23, 12, 0, 0, 0, [], sg0),
  (.dup, 24, 13, 0, 0, 0, [], sg0),
  (.getfield 36, 25, 14, 0, 5, 0, [], sg0),
  (.iconst 1, 28, 15, 0, 0, 1, [], sg0),
  (.iadd, 29, 16, 0, 0, 0, [], sg0),
  (.putfield 36, 30, 17, 0, 5, 0, [], sg0),
  (.return_, 33, 18, 0, 0, 0, [], sg0),
  (.nop, 34, 18, 0, 0, 0, [], sg0)]
set_option maxRecDepth 100000 in
theorem okX0_push : Chk sgX0_push kX0_push := ⟨by decide +kernel, tb_list [159, 157, 159, 193, 95, 194, 159, 159] (by decide +kernel) (by decide +kernel), nw_list [467] (by decide +kernel) (by decide +kernel), by decide +kernel⟩
def kX0_pop : List Row := [(.aload_n 0, 0, 1, 0, 0, 0, [], sg0),
  (.getfield 36, 1, 2, 0, 5, 0, [], sg0),
  (.ifCond .gt 5, 4, 3, 5, 0, 0, [], sg0),
  (.iconst 0, 7, 4, 0, 0, 0, [], sg0),
  (.ireturn, 8, 5, 0, 0, 0, [], sg0),
  (.aload_n 0, 9, 6, 0, 0, 0, [], sg0),
  (.dup, 10, 7, 0, 0, 0, [], sg0),
  (.getfield 36, 11, 8, 0, 5, 0, [], sg0),
  (.iconst 1, 14, 9, 0, 0, 1, [], sg0),
  (.isub, 15, 10, 0, 0, 0, [], sg0),
  (.putfield 36, 16, 11, 0, 5, 0, [], sg0),
  (.aload_n 0, 19, 12, 0, 0, 0, [], sg0),
  (.getfield 21, 20, 13, 0, 3, 0, [], sg0),
  (.aload_n 0, 23, 14, 0, 0, 0, [], sg0),
  (.getfield 36, 24, 15, 0, 5, 0, [], sg0),
  (.invokestatic 39, 27, 16, 0, 0, 1, [], sgX7_at),
  (.ireturn, 30, 17, 0, 0, 0, [], sg0),
  (.nop, 31, 17, 0, 0, 0, [], sg0)]
set_option maxRecDepth 100000 in
theorem okX0_pop : Chk sgX0_pop kX0_pop := ⟨by decide +kernel, tb_list [159, 159, 159, 157, 159, 345, 95, 346] (by decide +kernel) (by decide +kernel), nw_list [488] (by decide +kernel) (by decide +kernel), by decide +kernel⟩
def kX1_init : List Row := [(.aload_n 0, 0, 1, 0, 0, 0, [], sg0),
  (.invokespecial 3, 1, 2, 0, 9, 0, [], sg0),
  (.aload_n 0, 4, 3, 0, 0, 0, [], sg0),
  (.aload_n 1, 5, 4, 0, 0, 0, [], sg0),
  (.putfield 9, 6, 5, 1, 0, 0, [], sg0),
  (.aload_n 0, 9, 6, 0, 0, 0, [], sg0),
  (.aload_n 2, 10, 7, 0, 0, 0, [], sg0),
  (.putfield 15, 11, 8, 1, 1, 0, [], sg0),
  (.return_, 14, 9, 0, 0, 0, [], sg0),
  (.nop, 15, 9, 0, 0, 0, [], sg0)]
set_option maxRecDepth 100000 in
theorem okX1_init : Chk sgX1_init kX1_init := ⟨by decide +kernel, tb_list [178, 116, 117, 179, 180] (by decide +kernel) (by decide +kernel), nw_list [] (by decide +kernel) (by decide +kernel), by decide +kernel⟩
def kX1_readText : List Row := [(.aload_n 0, 0, 1, 0, 0, 0, [], sg0),
  (.getfield 9, 1, 2, 1, 0, 0, [], sg0),
  (.invokevirtual 19, 4, 3, 6, 0, 1, [], sgX6_start),
  (.aload_n 0, 7, 4, 0, 0, 0, [], sg0),
  (.getfield 15, 8, 5, 1, 1, 0, [], sg0),
  (.invokevirtual 24, 11, 6, 0, 0, 1, [], sgX0_clear),
  (.iconst 0, 14, 7, 0, 0, 0, [], sg0),
  (.istore_n 1, 15, 8, 0, 0, 0, [], sg0),
  (.iload_n 1, 16, 9, 0, 0, 0, [], sg0),
  (.iconst 3, 17, 10, 0, 0, 3, [], sg0),
  (.if_icmp .ge 48, 18, 11, 35, 0, 0, [], sg0),
  (.aload_n 0, 21, 12, 0, 0, 0, [], sg0),
  (.iconst 4, 22, 13, 0, 0, 4, [], sg0),
  (.iload_n 1, 23, 14, 0, 0, 0, [], sg0),
  (.iadd, 24, 15, 0, 0, 0, [], sg0),
  (.invokevirtual 29, 25, 16, 1, 0, 0, [], sgX1_readToken),
  (.ifCond .eq 11, 28, 17, 21, 0, 0, [], sg0),
  (.aload_n 0, 31, 18, 0, 0, 0, [], sg0),
  (.iconst 0, 32, 19, 0, 0, 0, [], sg0),
  (.invokevirtual 33, 33, 20, 1, 0, 0, [], sgX1_readOr),
  (.ifCond .ne 5, 36, 21, 23, 0, 0, [], sg0),
  (.iconst 0, 39, 22, 0, 0, 0, [], sg0),
  (.ireturn, 40, 23, 0, 0, 0, [], sg0),
  (.aload_n 0, 41, 24, 0, 0, 0, [], sg0),
  (.getfield 15, 42, 25, 1, 1, 0, [], sg0),
  (.iload_n 1, 45, 26, 0, 0, 0, [], sg0),
  (.invokevirtual 36, 46, 27, 0, 0, 1, [], sgX0_endPart),
  (.aload_n 0, 49, 28, 0, 0, 0, [], sg0),
  (.bipush 59, 50, 29, 0, 0, 59, [], sg0),
  (.invokevirtual 29, 52, 30, 1, 0, 0, [], sgX1_readToken),
  (.ifCond .ne 5, 55, 31, 33, 0, 0, [], sg0),
  (.iconst 0, 58, 32, 0, 0, 0, [], sg0),
  (.ireturn, 59, 33, 0, 0, 0, [], sg0),
  (.iinc 1 1, 60, 34, 0, 0, 1, [], sg0),
  (.goto (-47), 63, 35, 8, 0, 0, [], sg0),
  (.aload_n 0, 66, 36, 0, 0, 0, [], sg0),
  (.getfield 9, 67, 37, 1, 0, 0, [], sg0),
  (.getfield 40, 70, 38, 6, 2, 1, [], sg0),
  (.ifCond .ne 7, 73, 39, 41, 0, 0, [], sg0),
  (.iconst 1, 76, 40, 0, 0, 1, [], sg0),
  (.goto 4, 77, 41, 42, 0, 0, [], sg0),
  (.iconst 0, 80, 42, 0, 0, 0, [], sg0),
  (.ireturn, 81, 43, 0, 0, 0, [], sg0),
  (.nop, 82, 43, 0, 0, 0, [], sg0)]
set_option maxRecDepth 100000 in
theorem okX1_readText : Chk sgX1_readText kX1_readText := ⟨by decide +kernel, tb_list [179, 338, 2, 96, 339, 180, 428, 7, 97, 429, 430, 432, 8, 98, 433, 435, 437, 9, 98, 438, 180, 474, 18, 97, 475, 430, 432, 8, 98, 433, 179] (by decide +kernel) (by decide +kernel), nw_list [336, 426, 472, 127] (by decide +kernel) (by decide +kernel), by decide +kernel⟩
def kX1_readToken : List Row := [(.aload_n 0, 0, 1, 0, 0, 0, [], sg0),
  (.getfield 9, 1, 2, 1, 0, 0, [], sg0),
  (.getfield 40, 4, 3, 6, 2, 1, [], sg0),
  (.iload_n 1, 7, 4, 0, 0, 0, [], sg0),
  (.if_icmp .eq 5, 8, 5, 7, 0, 0, [], sg0),
  (.iconst 0, 11, 6, 0, 0, 0, [], sg0),
  (.ireturn, 12, 7, 0, 0, 0, [], sg0),
  (.aload_n 0, 13, 8, 0, 0, 0, [], sg0),
  (.getfield 9, 14, 9, 1, 0, 0, [], sg0),
  (.invokevirtual 44, 17, 10, 6, 0, 1, [], sgX6_advance),
  (.iconst 1, 20, 11, 0, 0, 1, [], sg0),
  (.ireturn, 21, 12, 0, 0, 0, [], sg0),
  (.nop, 22, 12, 0, 0, 0, [], sg0)]
set_option maxRecDepth 100000 in
theorem okX1_readToken : Chk sgX1_readToken kX1_readToken := ⟨by decide +kernel, tb_list [179, 179, 342, 3, 96, 343] (by decide +kernel) (by decide +kernel), nw_list [127, 434] (by decide +kernel) (by decide +kernel), by decide +kernel⟩
def kX1_readOr : List Row := [(.aload_n 0, 0, 1, 0, 0, 0, [], sg0),
  (.iload_n 1, 1, 2, 0, 0, 0, [], sg0),
  (.invokevirtual 47, 2, 3, 1, 0, 0, [], sgX1_readAnd),
  (.ifCond .ne 5, 5, 4, 6, 0, 0, [], sg0),
  (.iconst 0, 8, 5, 0, 0, 0, [], sg0),
  (.ireturn, 9, 6, 0, 0, 0, [], sg0),
  (.iconst 0, 10, 7, 0, 0, 0, [], sg0),
  (.istore_n 2, 11, 8, 0, 0, 0, [], sg0),
  (.iload_n 2, 12, 9, 0, 0, 0, [], sg0),
  (.sipush 160, 13, 10, 0, 0, 160, [], sg0),
  (.if_icmp .ge 48, 16, 11, 32, 0, 0, [], sg0),
  (.aload_n 0, 19, 12, 0, 0, 0, [], sg0),
  (.getfield 9, 20, 13, 1, 0, 0, [], sg0),
  (.getfield 40, 23, 14, 6, 2, 1, [], sg0),
  (.bipush 7, 26, 15, 0, 0, 7, [], sg0),
  (.if_icmp .ne 36, 28, 16, 32, 0, 0, [], sg0),
  (.aload_n 0, 31, 17, 0, 0, 0, [], sg0),
  (.getfield 9, 32, 18, 1, 0, 0, [], sg0),
  (.invokevirtual 44, 35, 19, 6, 0, 1, [], sgX6_advance),
  (.aload_n 0, 38, 20, 0, 0, 0, [], sg0),
  (.iload_n 1, 39, 21, 0, 0, 0, [], sg0),
  (.invokevirtual 47, 40, 22, 1, 0, 0, [], sgX1_readAnd),
  (.ifCond .ne 5, 43, 23, 25, 0, 0, [], sg0),
  (.iconst 0, 46, 24, 0, 0, 0, [], sg0),
  (.ireturn, 47, 25, 0, 0, 0, [], sg0),
  (.aload_n 0, 48, 26, 0, 0, 0, [], sg0),
  (.getfield 15, 49, 27, 1, 1, 0, [], sg0),
  (.bipush 7, 52, 28, 0, 0, 7, [], sg0),
  (.iconst 0, 54, 29, 0, 0, 0, [], sg0),
  (.invokevirtual 50, 55, 30, 0, 0, 1, [], sgX0_add),
  (.iinc 2 1, 58, 31, 0, 0, 1, [], sg0),
  (.goto (-49), 61, 32, 8, 0, 0, [], sg0),
  (.iconst 1, 64, 33, 0, 0, 1, [], sg0),
  (.ireturn, 65, 34, 0, 0, 0, [], sg0),
  (.nop, 66, 34, 0, 0, 0, [], sg0)]
set_option maxRecDepth 100000 in
theorem okX1_readOr : Chk sgX1_readOr kX1_readOr := ⟨by decide +kernel, tb_list [439, 441, 10, 98, 442, 179, 179, 342, 3, 96, 343, 439, 441, 10, 98, 442, 180, 465, 16, 97, 466] (by decide +kernel) (by decide +kernel), nw_list [127, 434, 463] (by decide +kernel) (by decide +kernel), by decide +kernel⟩
def kX1_readAnd : List Row := [(.aload_n 0, 0, 1, 0, 0, 0, [], sg0),
  (.iload_n 1, 1, 2, 0, 0, 0, [], sg0),
  (.invokevirtual 54, 2, 3, 1, 0, 0, [], sgX1_readNot),
  (.ifCond .ne 5, 5, 4, 6, 0, 0, [], sg0),
  (.iconst 0, 8, 5, 0, 0, 0, [], sg0),
  (.ireturn, 9, 6, 0, 0, 0, [], sg0),
  (.iconst 0, 10, 7, 0, 0, 0, [], sg0),
  (.istore_n 2, 11, 8, 0, 0, 0, [], sg0),
  (.iload_n 2, 12, 9, 0, 0, 0, [], sg0),
  (.sipush 160, 13, 10, 0, 0, 160, [], sg0),
  (.if_icmp .ge 48, 16, 11, 32, 0, 0, [], sg0),
  (.aload_n 0, 19, 12, 0, 0, 0, [], sg0),
  (.getfield 9, 20, 13, 1, 0, 0, [], sg0),
  (.getfield 40, 23, 14, 6, 2, 1, [], sg0),
  (.bipush 8, 26, 15, 0, 0, 8, [], sg0),
  (.if_icmp .ne 36, 28, 16, 32, 0, 0, [], sg0),
  (.aload_n 0, 31, 17, 0, 0, 0, [], sg0),
  (.getfield 9, 32, 18, 1, 0, 0, [], sg0),
  (.invokevirtual 44, 35, 19, 6, 0, 1, [], sgX6_advance),
  (.aload_n 0, 38, 20, 0, 0, 0, [], sg0),
  (.iload_n 1, 39, 21, 0, 0, 0, [], sg0),
  (.invokevirtual 54, 40, 22, 1, 0, 0, [], sgX1_readNot),
  (.ifCond .ne 5, 43, 23, 25, 0, 0, [], sg0),
  (.iconst 0, 46, 24, 0, 0, 0, [], sg0),
  (.ireturn, 47, 25, 0, 0, 0, [], sg0),
  (.aload_n 0, 48, 26, 0, 0, 0, [], sg0),
  (.getfield 15, 49, 27, 1, 1, 0, [], sg0),
  (.bipush 8, 52, 28, 0, 0, 8, [], sg0),
  (.iconst 0, 54, 29, 0, 0, 0, [], sg0),
  (.invokevirtual 50, 55, 30, 0, 0, 1, [], sgX0_add),
  (.iinc 2 1, 58, 31, 0, 0, 1, [], sg0),
  (.goto (-49), 61, 32, 8, 0, 0, [], sg0),
  (.iconst 1, 64, 33, 0, 0, 1, [], sg0),
  (.ireturn, 65, 34, 0, 0, 0, [], sg0),
  (.nop, 66, 34, 0, 0, 0, [], sg0)]
set_option maxRecDepth 100000 in
theorem okX1_readAnd : Chk sgX1_readAnd kX1_readAnd := ⟨by decide +kernel, tb_list [443, 445, 11, 98, 446, 179, 179, 342, 3, 96, 343, 443, 445, 11, 98, 446, 180, 465, 16, 97, 466] (by decide +kernel) (by decide +kernel), nw_list [127, 434, 463] (by decide +kernel) (by decide +kernel), by decide +kernel⟩
def kX1_readNot : List Row := [(.aload_n 0, 0, 1, 0, 0, 0, [], sg0),
  (.getfield 9, 1, 2, 1, 0, 0, [], sg0),
  (.getfield 40, 4, 3, 6, 2, 1, [], sg0),
  (.bipush 9, 7, 4, 0, 0, 9, [], sg0),
  (.if_icmp .eq 9, 9, 5, 9, 0, 0, [], sg0),
  (.aload_n 0, 12, 6, 0, 0, 0, [], sg0),
  (.iload_n 1, 13, 7, 0, 0, 0, [], sg0),
  (.invokevirtual 57, 14, 8, 1, 0, 0, [], sgX1_readCompared),
  (.ireturn, 17, 9, 0, 0, 0, [], sg0),
  (.iload_n 1, 18, 10, 0, 0, 0, [], sg0),
  (.iconst 5, 19, 11, 0, 0, 5, [], sg0),
  (.if_icmp .lt 5, 20, 12, 14, 0, 0, [], sg0),
  (.iconst 0, 23, 13, 0, 0, 0, [], sg0),
  (.ireturn, 24, 14, 0, 0, 0, [], sg0),
  (.aload_n 0, 25, 15, 0, 0, 0, [], sg0),
  (.getfield 9, 26, 16, 1, 0, 0, [], sg0),
  (.invokevirtual 44, 29, 17, 6, 0, 1, [], sgX6_advance),
  (.aload_n 0, 32, 18, 0, 0, 0, [], sg0),
  (.iload_n 1, 33, 19, 0, 0, 0, [], sg0),
  (.iconst 1, 34, 20, 0, 0, 1, [], sg0),
  (.iadd, 35, 21, 0, 0, 0, [], sg0),
  (.invokevirtual 54, 36, 22, 1, 0, 0, [], sgX1_readNot),
  (.ifCond .ne 5, 39, 23, 25, 0, 0, [], sg0),
  (.iconst 0, 42, 24, 0, 0, 0, [], sg0),
  (.ireturn, 43, 25, 0, 0, 0, [], sg0),
  (.aload_n 0, 44, 26, 0, 0, 0, [], sg0),
  (.getfield 15, 45, 27, 1, 1, 0, [], sg0),
  (.bipush 9, 48, 28, 0, 0, 9, [], sg0),
  (.iconst 0, 50, 29, 0, 0, 0, [], sg0),
  (.invokevirtual 50, 51, 30, 0, 0, 1, [], sgX0_add),
  (.iconst 1, 54, 31, 0, 0, 1, [], sg0),
  (.ireturn, 55, 32, 0, 0, 0, [], sg0),
  (.nop, 56, 32, 0, 0, 0, [], sg0)]
set_option maxRecDepth 100000 in
theorem okX1_readNot : Chk sgX1_readNot kX1_readNot := ⟨by decide +kernel, tb_list [179, 447, 449, 12, 98, 450, 179, 342, 3, 96, 343, 443, 445, 11, 98, 446, 180, 465, 16, 97, 466] (by decide +kernel) (by decide +kernel), nw_list [127, 434, 463] (by decide +kernel) (by decide +kernel), by decide +kernel⟩
def kX1_readCompared : List Row := [(.aload_n 0, 0, 1, 0, 0, 0, [], sg0),
  (.iload_n 1, 1, 2, 0, 0, 0, [], sg0),
  (.invokevirtual 60, 2, 3, 1, 0, 0, [], sgX1_readSum),
  (.ifCond .ne 5, 5, 4, 6, 0, 0, [], sg0),
  (.iconst 0, 8, 5, 0, 0, 0, [], sg0),
  (.ireturn, 9, 6, 0, 0, 0, [], sg0),
  (.aload_n 0, 10, 7, 0, 0, 0, [], sg0),
  (.getfield 9, 11, 8, 1, 0, 0, [], sg0),
  (.getfield 40, 14, 9, 6, 2, 1, [], sg0),
  (.istore_n 2, 17, 10, 0, 0, 0, [], sg0),
  (.iload_n 2, 18, 11, 0, 0, 0, [], sg0),
  (.bipush 60, 19, 12, 0, 0, 60, [], sg0),
  (.if_icmp .eq 11, 21, 13, 18, 0, 0, [], sg0),
  (.iload_n 2, 24, 14, 0, 0, 0, [], sg0),
  (.bipush 61, 25, 15, 0, 0, 61, [], sg0),
  (.if_icmp .eq 5, 27, 16, 18, 0, 0, [], sg0),
  (.iconst 1, 30, 17, 0, 0, 1, [], sg0),
  (.ireturn, 31, 18, 0, 0, 0, [], sg0),
  (.aload_n 0, 32, 19, 0, 0, 0, [], sg0),
  (.getfield 9, 33, 20, 1, 0, 0, [], sg0),
  (.invokevirtual 44, 36, 21, 6, 0, 1, [], sgX6_advance),
  (.aload_n 0, 39, 22, 0, 0, 0, [], sg0),
  (.iload_n 1, 40, 23, 0, 0, 0, [], sg0),
  (.invokevirtual 60, 41, 24, 1, 0, 0, [], sgX1_readSum),
  (.ifCond .ne 5, 44, 25, 27, 0, 0, [], sg0),
  (.iconst 0, 47, 26, 0, 0, 0, [], sg0),
  (.ireturn, 48, 27, 0, 0, 0, [], sg0),
  (.aload_n 0, 49, 28, 0, 0, 0, [], sg0),
  (.getfield 15, 50, 29, 1, 1, 0, [], sg0),
  (.iload_n 2, 53, 30, 0, 0, 0, [], sg0),
  (.iconst 0, 54, 31, 0, 0, 0, [], sg0),
  (.invokevirtual 50, 55, 32, 0, 0, 1, [], sgX0_add),
  (.iconst 1, 58, 33, 0, 0, 1, [], sg0),
  (.ireturn, 59, 34, 0, 0, 0, [], sg0),
  (.nop, 60, 34, 0, 0, 0, [], sg0)]
set_option maxRecDepth 100000 in
theorem okX1_readCompared : Chk sgX1_readCompared kX1_readCompared := ⟨by decide +kernel, tb_list [451, 453, 13, 98, 454, 179, 179, 342, 3, 96, 343, 451, 453, 13, 98, 454, 180, 465, 16, 97, 466] (by decide +kernel) (by decide +kernel), nw_list [127, 434, 463] (by decide +kernel) (by decide +kernel), by decide +kernel⟩
def kX1_readSum : List Row := [(.aload_n 0, 0, 1, 0, 0, 0, [], sg0),
  (.iload_n 1, 1, 2, 0, 0, 0, [], sg0),
  (.invokevirtual 63, 2, 3, 1, 0, 0, [], sgX1_readTerm),
  (.ifCond .ne 5, 5, 4, 6, 0, 0, [], sg0),
  (.iconst 0, 8, 5, 0, 0, 0, [], sg0),
  (.ireturn, 9, 6, 0, 0, 0, [], sg0),
  (.iconst 0, 10, 7, 0, 0, 0, [], sg0),
  (.istore_n 2, 11, 8, 0, 0, 0, [], sg0),
  (.iload_n 2, 12, 9, 0, 0, 0, [], sg0),
  (.sipush 160, 13, 10, 0, 0, 160, [], sg0),
  (.if_icmp .ge 67, 16, 11, 41, 0, 0, [], sg0),
  (.aload_n 0, 19, 12, 0, 0, 0, [], sg0),
  (.getfield 9, 20, 13, 1, 0, 0, [], sg0),
  (.getfield 40, 23, 14, 6, 2, 1, [], sg0),
  (.bipush 43, 26, 15, 0, 0, 43, [], sg0),
  (.if_icmp .eq 15, 28, 16, 21, 0, 0, [], sg0),
  (.aload_n 0, 31, 17, 0, 0, 0, [], sg0),
  (.getfield 9, 32, 18, 1, 0, 0, [], sg0),
  (.getfield 40, 35, 19, 6, 2, 1, [], sg0),
  (.bipush 45, 38, 20, 0, 0, 45, [], sg0),
  (.if_icmp .ne 43, 40, 21, 41, 0, 0, [], sg0),
  (.aload_n 0, 43, 22, 0, 0, 0, [], sg0),
  (.getfield 9, 44, 23, 1, 0, 0, [], sg0),
  (.getfield 40, 47, 24, 6, 2, 1, [], sg0),
  (.istore_n 3, 50, 25, 0, 0, 0, [], sg0),
  (.aload_n 0, 51, 26, 0, 0, 0, [], sg0),
  (.getfield 9, 52, 27, 1, 0, 0, [], sg0),
  (.invokevirtual 44, 55, 28, 6, 0, 1, [], sgX6_advance),
  (.aload_n 0, 58, 29, 0, 0, 0, [], sg0),
  (.iload_n 1, 59, 30, 0, 0, 0, [], sg0),
  (.invokevirtual 63, 60, 31, 1, 0, 0, [], sgX1_readTerm),
  (.ifCond .ne 5, 63, 32, 34, 0, 0, [], sg0),
  (.iconst 0, 66, 33, 0, 0, 0, [], sg0),
  (.ireturn, 67, 34, 0, 0, 0, [], sg0),
  (.aload_n 0, 68, 35, 0, 0, 0, [], sg0),
  (.getfield 15, 69, 36, 1, 1, 0, [], sg0),
  (.iload_n 3, 72, 37, 0, 0, 0, [], sg0),
  (.iconst 0, 73, 38, 0, 0, 0, [], sg0),
  (.invokevirtual 50, 74, 39, 0, 0, 1, [], sgX0_add),
  (.iinc 2 1, 77, 40, 0, 0, 1, [], sg0),
  (.goto (-68), 80, 41, 8, 0, 0, [], sg0),
  (.iconst 1, 83, 42, 0, 0, 1, [], sg0),
  (.ireturn, 84, 43, 0, 0, 0, [], sg0),
  (.nop, 85, 43, 0, 0, 0, [], sg0)]
set_option maxRecDepth 100000 in
theorem okX1_readSum : Chk sgX1_readSum kX1_readSum := ⟨by decide +kernel, tb_list [455, 457, 14, 98, 458, 179, 179, 179, 179, 342, 3, 96, 343, 455, 457, 14, 98, 458, 180, 465, 16, 97, 466] (by decide +kernel) (by decide +kernel), nw_list [127, 127, 127, 434, 463] (by decide +kernel) (by decide +kernel), by decide +kernel⟩
def kX1_readTerm : List Row := [(.aload_n 0, 0, 1, 0, 0, 0, [], sg0),
  (.iload_n 1, 1, 2, 0, 0, 0, [], sg0),
  (.invokevirtual 66, 2, 3, 1, 0, 0, [], sgX1_readOne),
  (.ifCond .ne 5, 5, 4, 6, 0, 0, [], sg0),
  (.iconst 0, 8, 5, 0, 0, 0, [], sg0),
  (.ireturn, 9, 6, 0, 0, 0, [], sg0),
  (.iconst 0, 10, 7, 0, 0, 0, [], sg0),
  (.istore_n 2, 11, 8, 0, 0, 0, [], sg0),
  (.iload_n 2, 12, 9, 0, 0, 0, [], sg0),
  (.sipush 160, 13, 10, 0, 0, 160, [], sg0),
  (.if_icmp .ge 48, 16, 11, 32, 0, 0, [], sg0),
  (.aload_n 0, 19, 12, 0, 0, 0, [], sg0),
  (.getfield 9, 20, 13, 1, 0, 0, [], sg0),
  (.getfield 40, 23, 14, 6, 2, 1, [], sg0),
  (.bipush 42, 26, 15, 0, 0, 42, [], sg0),
  (.if_icmp .ne 36, 28, 16, 32, 0, 0, [], sg0),
  (.aload_n 0, 31, 17, 0, 0, 0, [], sg0),
  (.getfield 9, 32, 18, 1, 0, 0, [], sg0),
  (.invokevirtual 44, 35, 19, 6, 0, 1, [], sgX6_advance),
  (.aload_n 0, 38, 20, 0, 0, 0, [], sg0),
  (.iload_n 1, 39, 21, 0, 0, 0, [], sg0),
  (.invokevirtual 66, 40, 22, 1, 0, 0, [], sgX1_readOne),
  (.ifCond .ne 5, 43, 23, 25, 0, 0, [], sg0),
  (.iconst 0, 46, 24, 0, 0, 0, [], sg0),
  (.ireturn, 47, 25, 0, 0, 0, [], sg0),
  (.aload_n 0, 48, 26, 0, 0, 0, [], sg0),
  (.getfield 15, 49, 27, 1, 1, 0, [], sg0),
  (.bipush 42, 52, 28, 0, 0, 42, [], sg0),
  (.iconst 0, 54, 29, 0, 0, 0, [], sg0),
  (.invokevirtual 50, 55, 30, 0, 0, 1, [], sgX0_add),
  (.iinc 2 1, 58, 31, 0, 0, 1, [], sg0),
  (.goto (-49), 61, 32, 8, 0, 0, [], sg0),
  (.iconst 1, 64, 33, 0, 0, 1, [], sg0),
  (.ireturn, 65, 34, 0, 0, 0, [], sg0),
  (.nop, 66, 34, 0, 0, 0, [], sg0)]
set_option maxRecDepth 100000 in
theorem okX1_readTerm : Chk sgX1_readTerm kX1_readTerm := ⟨by decide +kernel, tb_list [459, 461, 15, 98, 462, 179, 179, 342, 3, 96, 343, 459, 461, 15, 98, 462, 180, 465, 16, 97, 466] (by decide +kernel) (by decide +kernel), nw_list [127, 434, 463] (by decide +kernel) (by decide +kernel), by decide +kernel⟩
def kX1_readOne : List Row := [(.aload_n 0, 0, 1, 0, 0, 0, [], sg0),
  (.getfield 9, 1, 2, 1, 0, 0, [], sg0),
  (.getfield 40, 4, 3, 6, 2, 1, [], sg0),
  (.iconst 2, 7, 4, 0, 0, 2, [], sg0),
  (.if_icmp .eq 14, 8, 5, 10, 0, 0, [], sg0),
  (.aload_n 0, 11, 6, 0, 0, 0, [], sg0),
  (.getfield 9, 12, 7, 1, 0, 0, [], sg0),
  (.getfield 40, 15, 8, 6, 2, 1, [], sg0),
  (.iconst 3, 18, 9, 0, 0, 3, [], sg0),
  (.if_icmp .ne 33, 19, 10, 24, 0, 0, [], sg0),
  (.aload_n 0, 22, 11, 0, 0, 0, [], sg0),
  (.getfield 15, 23, 12, 1, 1, 0, [], sg0),
  (.aload_n 0, 26, 13, 0, 0, 0, [], sg0),
  (.getfield 9, 27, 14, 1, 0, 0, [], sg0),
  (.getfield 40, 30, 15, 6, 2, 1, [], sg0),
  (.aload_n 0, 33, 16, 0, 0, 0, [], sg0),
  (.getfield 9, 34, 17, 1, 0, 0, [], sg0),
  (.getfield 69, 37, 18, 6, 3, 1, [], sg0),
  (.invokevirtual 50, 40, 19, 0, 0, 1, [], sgX0_add),
  (.aload_n 0, 43, 20, 0, 0, 0, [], sg0),
  (.getfield 9, 44, 21, 1, 0, 0, [], sg0),
  (.invokevirtual 44, 47, 22, 6, 0, 1, [], sgX6_advance),
  (.iconst 1, 50, 23, 0, 0, 1, [], sg0),
  (.ireturn, 51, 24, 0, 0, 0, [], sg0),
  (.aload_n 0, 52, 25, 0, 0, 0, [], sg0),
  (.getfield 9, 53, 26, 1, 0, 0, [], sg0),
  (.getfield 40, 56, 27, 6, 2, 1, [], sg0),
  (.bipush 45, 59, 28, 0, 0, 45, [], sg0),
  (.if_icmp .eq 17, 61, 29, 36, 0, 0, [], sg0),
  (.aload_n 0, 64, 30, 0, 0, 0, [], sg0),
  (.getfield 9, 65, 31, 1, 0, 0, [], sg0),
  (.getfield 40, 68, 32, 6, 2, 1, [], sg0),
  (.bipush 40, 71, 33, 0, 0, 40, [], sg0),
  (.if_icmp .eq 5, 73, 34, 36, 0, 0, [], sg0),
  (.iconst 0, 76, 35, 0, 0, 0, [], sg0),
  (.ireturn, 77, 36, 0, 0, 0, [], sg0),
  (.iload_n 1, 78, 37, 0, 0, 0, [], sg0),
  (.iconst 5, 79, 38, 0, 0, 5, [], sg0),
  (.if_icmp .lt 5, 80, 39, 41, 0, 0, [], sg0),
  (.iconst 0, 83, 40, 0, 0, 0, [], sg0),
  (.ireturn, 84, 41, 0, 0, 0, [], sg0),
  (.aload_n 0, 85, 42, 0, 0, 0, [], sg0),
  (.getfield 9, 86, 43, 1, 0, 0, [], sg0),
  (.getfield 40, 89, 44, 6, 2, 1, [], sg0),
  (.bipush 40, 92, 45, 0, 0, 40, [], sg0),
  (.if_icmp .ne 7, 94, 46, 48, 0, 0, [], sg0),
  (.iconst 1, 97, 47, 0, 0, 1, [], sg0),
  (.goto 4, 98, 48, 49, 0, 0, [], sg0),
  (.iconst 0, 101, 49, 0, 0, 0, [], sg0),
  (.istore_n 2, 102, 50, 0, 0, 0, [], sg0),
  (.aload_n 0, 103, 51, 0, 0, 0, [], sg0),
  (.getfield 9, 104, 52, 1, 0, 0, [], sg0),
  (.invokevirtual 44, 107, 53, 6, 0, 1, [], sgX6_advance),
  (.iload_n 2, 110, 54, 0, 0, 0, [], sg0),
  (.ifCond .eq 11, 111, 55, 61, 0, 0, [], sg0),
  (.aload_n 0, 114, 56, 0, 0, 0, [], sg0),
  (.iload_n 1, 115, 57, 0, 0, 0, [], sg0),
  (.iconst 1, 116, 58, 0, 0, 1, [], sg0),
  (.iadd, 117, 59, 0, 0, 0, [], sg0),
  (.invokevirtual 72, 118, 60, 1, 0, 0, [], sgX1_readBracket),
  (.ireturn, 121, 61, 0, 0, 0, [], sg0),
  (.aload_n 0, 122, 62, 0, 0, 0, [], sg0),
  (.iload_n 1, 123, 63, 0, 0, 0, [], sg0),
  (.iconst 1, 124, 64, 0, 0, 1, [], sg0),
  (.iadd, 125, 65, 0, 0, 0, [], sg0),
  (.invokevirtual 66, 126, 66, 1, 0, 0, [], sgX1_readOne),
  (.ifCond .ne 5, 129, 67, 69, 0, 0, [], sg0),
  (.iconst 0, 132, 68, 0, 0, 0, [], sg0),
  (.ireturn, 133, 69, 0, 0, 0, [], sg0),
  (.aload_n 0, 134, 70, 0, 0, 0, [], sg0),
  (.getfield 15, 135, 71, 1, 1, 0, [], sg0),
  (.bipush 10, 138, 72, 0, 0, 10, [], sg0),
  (.iconst 0, 140, 73, 0, 0, 0, [], sg0),
  (.invokevirtual 50, 141, 74, 0, 0, 1, [], sgX0_add),
  (.iconst 1, 144, 75, 0, 0, 1, [], sg0),
  (.ireturn, 145, 76, 0, 0, 0, [], sg0),
  (.nop, 146, 76, 0, 0, 0, [], sg0)]
def kX1_readOne_0 : List Row := [(.aload_n 0, 0, 1, 0, 0, 0, [], sg0),
  (.getfield 9, 1, 2, 1, 0, 0, [], sg0),
  (.getfield 40, 4, 3, 6, 2, 1, [], sg0),
  (.iconst 2, 7, 4, 0, 0, 2, [], sg0),
  (.if_icmp .eq 14, 8, 5, 10, 0, 0, [], sg0),
  (.aload_n 0, 11, 6, 0, 0, 0, [], sg0),
  (.getfield 9, 12, 7, 1, 0, 0, [], sg0),
  (.getfield 40, 15, 8, 6, 2, 1, [], sg0),
  (.iconst 3, 18, 9, 0, 0, 3, [], sg0),
  (.if_icmp .ne 33, 19, 10, 24, 0, 0, [], sg0),
  (.aload_n 0, 22, 11, 0, 0, 0, [], sg0),
  (.getfield 15, 23, 12, 1, 1, 0, [], sg0),
  (.aload_n 0, 26, 13, 0, 0, 0, [], sg0),
  (.getfield 9, 27, 14, 1, 0, 0, [], sg0),
  (.getfield 40, 30, 15, 6, 2, 1, [], sg0),
  (.aload_n 0, 33, 16, 0, 0, 0, [], sg0),
  (.getfield 9, 34, 17, 1, 0, 0, [], sg0),
  (.getfield 69, 37, 18, 6, 3, 1, [], sg0),
  (.invokevirtual 50, 40, 19, 0, 0, 1, [], sgX0_add),
  (.aload_n 0, 43, 20, 0, 0, 0, [], sg0),
  (.getfield 9, 44, 21, 1, 0, 0, [], sg0),
  (.invokevirtual 44, 47, 22, 6, 0, 1, [], sgX6_advance),
  (.iconst 1, 50, 23, 0, 0, 1, [], sg0),
  (.ireturn, 51, 24, 0, 0, 0, [], sg0),
  (.aload_n 0, 52, 25, 0, 0, 0, [], sg0),
  (.getfield 9, 53, 26, 1, 0, 0, [], sg0),
  (.getfield 40, 56, 27, 6, 2, 1, [], sg0),
  (.bipush 45, 59, 28, 0, 0, 45, [], sg0),
  (.if_icmp .eq 17, 61, 29, 36, 0, 0, [], sg0),
  (.aload_n 0, 64, 30, 0, 0, 0, [], sg0),
  (.getfield 9, 65, 31, 1, 0, 0, [], sg0),
  (.getfield 40, 68, 32, 6, 2, 1, [], sg0),
  (.bipush 40, 71, 33, 0, 0, 40, [], sg0),
  (.if_icmp .eq 5, 73, 34, 36, 0, 0, [], sg0),
  (.iconst 0, 76, 35, 0, 0, 0, [], sg0),
  (.ireturn, 77, 36, 0, 0, 0, [], sg0),
  (.iload_n 1, 78, 37, 0, 0, 0, [], sg0),
  (.iconst 5, 79, 38, 0, 0, 5, [], sg0),
  (.if_icmp .lt 5, 80, 39, 41, 0, 0, [], sg0),
  (.iconst 0, 83, 40, 0, 0, 0, [], sg0)]
set_option maxRecDepth 100000 in
theorem rX1_readOne_0 : kX1_readOne_0.all (rowB sgX1_readOne kX1_readOne) = true := by decide +kernel
def kX1_readOne_1 : List Row := [(.ireturn, 84, 41, 0, 0, 0, [], sg0),
  (.aload_n 0, 85, 42, 0, 0, 0, [], sg0),
  (.getfield 9, 86, 43, 1, 0, 0, [], sg0),
  (.getfield 40, 89, 44, 6, 2, 1, [], sg0),
  (.bipush 40, 92, 45, 0, 0, 40, [], sg0),
  (.if_icmp .ne 7, 94, 46, 48, 0, 0, [], sg0),
  (.iconst 1, 97, 47, 0, 0, 1, [], sg0),
  (.goto 4, 98, 48, 49, 0, 0, [], sg0),
  (.iconst 0, 101, 49, 0, 0, 0, [], sg0),
  (.istore_n 2, 102, 50, 0, 0, 0, [], sg0),
  (.aload_n 0, 103, 51, 0, 0, 0, [], sg0),
  (.getfield 9, 104, 52, 1, 0, 0, [], sg0),
  (.invokevirtual 44, 107, 53, 6, 0, 1, [], sgX6_advance),
  (.iload_n 2, 110, 54, 0, 0, 0, [], sg0),
  (.ifCond .eq 11, 111, 55, 61, 0, 0, [], sg0),
  (.aload_n 0, 114, 56, 0, 0, 0, [], sg0),
  (.iload_n 1, 115, 57, 0, 0, 0, [], sg0),
  (.iconst 1, 116, 58, 0, 0, 1, [], sg0),
  (.iadd, 117, 59, 0, 0, 0, [], sg0),
  (.invokevirtual 72, 118, 60, 1, 0, 0, [], sgX1_readBracket),
  (.ireturn, 121, 61, 0, 0, 0, [], sg0),
  (.aload_n 0, 122, 62, 0, 0, 0, [], sg0),
  (.iload_n 1, 123, 63, 0, 0, 0, [], sg0),
  (.iconst 1, 124, 64, 0, 0, 1, [], sg0),
  (.iadd, 125, 65, 0, 0, 0, [], sg0),
  (.invokevirtual 66, 126, 66, 1, 0, 0, [], sgX1_readOne),
  (.ifCond .ne 5, 129, 67, 69, 0, 0, [], sg0),
  (.iconst 0, 132, 68, 0, 0, 0, [], sg0),
  (.ireturn, 133, 69, 0, 0, 0, [], sg0),
  (.aload_n 0, 134, 70, 0, 0, 0, [], sg0),
  (.getfield 15, 135, 71, 1, 1, 0, [], sg0),
  (.bipush 10, 138, 72, 0, 0, 10, [], sg0),
  (.iconst 0, 140, 73, 0, 0, 0, [], sg0),
  (.invokevirtual 50, 141, 74, 0, 0, 1, [], sgX0_add),
  (.iconst 1, 144, 75, 0, 0, 1, [], sg0),
  (.ireturn, 145, 76, 0, 0, 0, [], sg0),
  (.nop, 146, 76, 0, 0, 0, [], sg0)]
set_option maxRecDepth 100000 in
theorem rX1_readOne_1 : kX1_readOne_1.all (rowB sgX1_readOne kX1_readOne) = true := by decide +kernel
set_option maxRecDepth 100000 in
theorem okX1_readOne : Chk sgX1_readOne kX1_readOne := ⟨rw_all (ls := [kX1_readOne_0, kX1_readOne_1]) rfl (rw_cons rX1_readOne_0 (rw_cons rX1_readOne_1 rw_nil)), tb_list [179, 179, 180, 179, 179, 465, 16, 97, 466, 179, 342, 3, 96, 343, 179, 179, 179, 179, 342, 3, 96, 343, 468, 470, 17, 98, 471, 459, 461, 15, 98, 462, 180, 465, 16, 97, 466] (by decide +kernel) (by decide +kernel), nw_list [127, 127, 127, 130, 463, 434, 127, 127, 127, 434, 463] (by decide +kernel) (by decide +kernel), by decide +kernel⟩
def kX1_readBracket : List Row := [(.aload_n 0, 0, 1, 0, 0, 0, [], sg0),
  (.iload_n 1, 1, 2, 0, 0, 0, [], sg0),
  (.invokevirtual 33, 2, 3, 1, 0, 0, [], sgX1_readOr),
  (.ifCond .eq 15, 5, 4, 9, 0, 0, [], sg0),
  (.aload_n 0, 8, 5, 0, 0, 0, [], sg0),
  (.getfield 9, 9, 6, 1, 0, 0, [], sg0),
  (.getfield 40, 12, 7, 6, 2, 1, [], sg0),
  (.bipush 41, 15, 8, 0, 0, 41, [], sg0),
  (.if_icmp .eq 5, 17, 9, 11, 0, 0, [], sg0),
  (.iconst 0, 20, 10, 0, 0, 0, [], sg0),
  (.ireturn, 21, 11, 0, 0, 0, [], sg0),
  (.aload_n 0, 22, 12, 0, 0, 0, [], sg0),
  (.getfield 9, 23, 13, 1, 0, 0, [], sg0),
  (.invokevirtual 44, 26, 14, 6, 0, 1, [], sgX6_advance),
  (.iconst 1, 29, 15, 0, 0, 1, [], sg0),
  (.ireturn, 30, 16, 0, 0, 0, [], sg0),
  (.nop, 31, 16, 0, 0, 0, [], sg0)]
set_option maxRecDepth 100000 in
theorem okX1_readBracket : Chk sgX1_readBracket kX1_readBracket := ⟨by decide +kernel, tb_list [435, 437, 9, 98, 438, 179, 179, 342, 3, 96, 343] (by decide +kernel) (by decide +kernel), nw_list [127, 434] (by decide +kernel) (by decide +kernel), by decide +kernel⟩
def kX2_init : List Row := [(.aload_n 0, 0, 1, 0, 0, 0, [], sg0),
  (.invokespecial 1, 1, 2, 0, 9, 0, [], sg0),
  (.return_, 4, 3, 0, 0, 0, [], sg0),
  (.nop, 5, 3, 0, 0, 0, [], sg0)]
set_option maxRecDepth 100000 in
theorem okX2_init : Chk sgX2_init kX2_init := ⟨by decide +kernel, tb_list [266, 116, 117] (by decide +kernel) (by decide +kernel), nw_list [] (by decide +kernel) (by decide +kernel), by decide +kernel⟩
def kX2_consider : List Row := [(.iload_n 3, 0, 1, 0, 0, 0, [], sg0),
  (.aload_n 0, 1, 2, 0, 0, 0, [], sg0),
  (.getfield 7, 2, 3, 2, 2, 0, [], sg0),
  (.if_icmp .lt 20, 5, 4, 12, 0, 0, [], sg0),
  (.iload_n 3, 8, 5, 0, 0, 0, [], sg0),
  (.aload_n 0, 9, 6, 0, 0, 0, [], sg0),
  (.getfield 7, 10, 7, 2, 2, 0, [], sg0),
  (.if_icmp .ne 16, 13, 8, 14, 0, 0, [], sg0),
  (.iload 4, 16, 9, 0, 0, 0, [], sg0),
  (.aload_n 0, 18, 10, 0, 0, 0, [], sg0),
  (.getfield 13, 19, 11, 2, 3, 0, [], sg0),
  (.if_icmp .ge 7, 22, 12, 14, 0, 0, [], sg0),
  (.iconst 1, 25, 13, 0, 0, 1, [], sg0),
  (.goto 4, 26, 14, 15, 0, 0, [], sg0),
  (.iconst 0, 29, 15, 0, 0, 0, [], sg0),
  (.istore 5, 30, 16, 0, 0, 0, [], sg0),
  (.iload 5, 32, 17, 0, 0, 0, [], sg0),
  (.ifCond .ne 4, 34, 18, 19, 0, 0, [], sg0),
  (.return_, 37, 19, 0, 0, 0, [], sg0),
  (.aload_n 0, 38, 20, 0, 0, 0, [], sg0),
  (.iload_n 1, 39, 21, 0, 0, 0, [], sg0),
  (.putfield 16, 40, 22, 2, 0, 0, [], sg0),
  (.aload_n 0, 43, 23, 0, 0, 0, [], sg0),
  (.iload_n 2, 44, 24, 0, 0, 0, [], sg0),
  (.putfield 19, 45, 25, 2, 1, 0, [], sg0),
  (.aload_n 0, 48, 26, 0, 0, 0, [], sg0),
  (.iload_n 3, 49, 27, 0, 0, 0, [], sg0),
  (.putfield 7, 50, 28, 2, 2, 0, [], sg0),
  (.aload_n 0, 53, 29, 0, 0, 0, [], sg0),
  (.iload 4, 54, 30, 0, 0, 0, [], sg0),
  (.putfield 13, 56, 31, 2, 3, 0, [], sg0),
  (.return_, 59, 32, 0, 0, 0, [], sg0),
  (.nop, 60, 32, 0, 0, 0, [], sg0)]
set_option maxRecDepth 100000 in
theorem okX2_consider : Chk sgX2_consider kX2_consider := ⟨by decide +kernel, tb_list [271, 271, 273, 267, 269, 271, 273] (by decide +kernel) (by decide +kernel), nw_list [] (by decide +kernel) (by decide +kernel), by decide +kernel⟩
def kX3_init : List Row := [(.aload_n 0, 0, 1, 0, 0, 0, [], sg0),
  (.invokespecial 3, 1, 2, 0, 9, 0, [], sg0),
  (.aload_n 0, 4, 3, 0, 0, 0, [], sg0),
  (.iconst 4, 5, 4, 0, 0, 4, [], sg0),
  (.newarray .int, 6, 5, 0, 0, 0, [], sg0),
  (.putfield 9, 8, 6, 3, 0, 0, [], sg0),
  (.aload_n 0, 11, 7, 0, 0, 0, [], sg0),
  (.iconst 4, 12, 8, 0, 0, 4, [], sg0),
  (.newarray .int, 13, 9, 0, 0, 0, [], sg0),
  (.putfield 15, 15, 10, 3, 1, 0, [], sg0),
  (.aload_n 0, 18, 11, 0, 0, 0, [], sg0),
  (.sipush 160, 19, 12, 0, 0, 160, [], sg0),
  (.newarray .int, 22, 13, 0, 0, 0, [], sg0),
  (.putfield 18, 24, 14, 3, 2, 0, [], sg0),
  (.aload_n 0, 27, 15, 0, 0, 0, [], sg0),
  (.bipush 40, 28, 16, 0, 0, 40, [], sg0),
  (.newarray .int, 30, 17, 0, 0, 0, [], sg0),
  (.putfield 21, 32, 18, 3, 3, 0, [], sg0),
  (.iconst 0, 35, 19, 0, 0, 0, [], sg0),
  (.istore_n 1, 36, 20, 0, 0, 0, [], sg0),
  (.iload_n 1, 37, 21, 0, 0, 0, [], sg0),
  (.iconst 4, 38, 22, 0, 0, 4, [], sg0),
  (.if_icmp .ge 18, 39, 23, 30, 0, 0, [], sg0),
  (.aload_n 0, 42, 24, 0, 0, 0, [], sg0),
  (.getfield 9, 43, 25, 3, 0, 0, [], sg0),
  (.iload_n 1, 46, 26, 0, 0, 0, [], sg0),
  (.iconst (-1), 47, 27, 0, 0, (-1), [], sg0),
  (.invokestatic 24, 48, 28, 0, 0, 1, [], sgX7_put),
  (.iinc 1 1, 51, 29, 0, 0, 1, [], sg0),
  (.goto (-17), 54, 30, 20, 0, 0, [], sg0),
  (.return_, 57, 31, 0, 0, 0, [], sg0),
  (.nop, 58, 31, 0, 0, 0, [], sg0)]
set_option maxRecDepth 100000 in
theorem okX3_init : Chk sgX3_init kX3_init := ⟨by decide +kernel, tb_list [244, 116, 117, 147, 246, 147, 248, 147, 250, 147, 251, 246, 193, 95, 194] (by decide +kernel) (by decide +kernel), nw_list [245] (by decide +kernel) (by decide +kernel), by decide +kernel⟩
def kX3_isMissing : List Row := [(.aload_n 0, 0, 1, 0, 0, 0, [], sg0),
  (.getfield 9, 1, 2, 3, 0, 0, [], sg0),
  (.iload_n 1, 4, 3, 0, 0, 0, [], sg0),
  (.invokestatic 28, 5, 4, 0, 0, 1, [], sgX7_at),
  (.iconst (-1), 8, 5, 0, 0, (-1), [], sg0),
  (.if_icmp .ne 7, 9, 6, 8, 0, 0, [], sg0),
  (.iconst 1, 12, 7, 0, 0, 1, [], sg0),
  (.goto 4, 13, 8, 9, 0, 0, [], sg0),
  (.iconst 0, 16, 9, 0, 0, 0, [], sg0),
  (.ireturn, 17, 10, 0, 0, 0, [], sg0),
  (.nop, 18, 10, 0, 0, 0, [], sg0)]
set_option maxRecDepth 100000 in
theorem okX3_isMissing : Chk sgX3_isMissing kX3_isMissing := ⟨by decide +kernel, tb_list [246, 345, 95, 346] (by decide +kernel) (by decide +kernel), nw_list [791] (by decide +kernel) (by decide +kernel), by decide +kernel⟩
def kX3_make : List Row := [(.aload_n 0, 0, 1, 0, 0, 0, [], sg0),
  (.getfield 9, 1, 2, 3, 0, 0, [], sg0),
  (.iload_n 1, 4, 3, 0, 0, 0, [], sg0),
  (.iload_n 2, 5, 4, 0, 0, 0, [], sg0),
  (.invokestatic 24, 6, 5, 0, 0, 1, [], sgX7_put),
  (.aload_n 0, 9, 6, 0, 0, 0, [], sg0),
  (.getfield 15, 10, 7, 3, 1, 0, [], sg0),
  (.iload_n 1, 13, 8, 0, 0, 0, [], sg0),
  (.iload_n 3, 14, 9, 0, 0, 0, [], sg0),
  (.invokestatic 24, 15, 10, 0, 0, 1, [], sgX7_put),
  (.iconst 0, 18, 11, 0, 0, 0, [], sg0),
  (.istore 4, 19, 12, 0, 0, 0, [], sg0),
  (.iload 4, 21, 13, 0, 0, 0, [], sg0),
  (.bipush 40, 23, 14, 0, 0, 40, [], sg0),
  (.if_icmp .ge 24, 25, 15, 26, 0, 0, [], sg0),
  (.aload_n 0, 28, 16, 0, 0, 0, [], sg0),
  (.getfield 18, 29, 17, 3, 2, 0, [], sg0),
  (.iload_n 1, 32, 18, 0, 0, 0, [], sg0),
  (.bipush 40, 33, 19, 0, 0, 40, [], sg0),
  (.imul, 35, 20, 0, 0, 0, [], sg0),
  (.iload 4, 36, 21, 0, 0, 0, [], sg0),
  (.iadd, 38, 22, 0, 0, 0, [], sg0),
  (.iconst 0, 39, 23, 0, 0, 0, [], sg0),
  (.invokestatic 24, 40, 24, 0, 0, 1, [], sgX7_put),
  (.iinc 4 1, 43, 25, 0, 0, 1, [], sg0),
  (.goto (-25), 46, 26, 12, 0, 0, [], sg0),
  (.return_, 49, 27, 0, 0, 0, [], sg0),
  (.nop, 50, 27, 0, 0, 0, [], sg0)]
set_option maxRecDepth 100000 in
theorem okX3_make : Chk sgX3_make kX3_make := ⟨by decide +kernel, tb_list [246, 193, 95, 194, 248, 193, 95, 194, 250, 193, 95, 194] (by decide +kernel) (by decide +kernel), nw_list [245, 245, 245] (by decide +kernel) (by decide +kernel), by decide +kernel⟩
def kX3_holds : List Row := [(.iload_n 2, 0, 1, 0, 0, 0, [], sg0),
  (.aload_n 0, 1, 2, 0, 0, 0, [], sg0),
  (.getfield 15, 2, 3, 3, 1, 0, [], sg0),
  (.iload_n 1, 5, 4, 0, 0, 0, [], sg0),
  (.invokestatic 28, 6, 5, 0, 0, 1, [], sgX7_at),
  (.invokestatic 32, 9, 6, 0, 0, 1, [], sgX7_isBelow),
  (.ireturn, 12, 7, 0, 0, 0, [], sg0),
  (.nop, 13, 7, 0, 0, 0, [], sg0)]
set_option maxRecDepth 100000 in
theorem okX3_holds : Chk sgX3_holds kX3_holds := ⟨by decide +kernel, tb_list [248, 345, 95, 346, 524, 95, 525] (by decide +kernel) (by decide +kernel), nw_list [791, 860] (by decide +kernel) (by decide +kernel), by decide +kernel⟩
def kX3_holdsRun : List Row := [(.iload_n 3, 0, 1, 0, 0, 0, [], sg0),
  (.ifCond .lt 37, 1, 2, 20, 0, 0, [], sg0),
  (.iload_n 2, 4, 3, 0, 0, 0, [], sg0),
  (.ifCond .lt 33, 5, 4, 20, 0, 0, [], sg0),
  (.iload_n 3, 8, 5, 0, 0, 0, [], sg0),
  (.aload_n 0, 9, 6, 0, 0, 0, [], sg0),
  (.getfield 15, 10, 7, 3, 1, 0, [], sg0),
  (.iload_n 1, 13, 8, 0, 0, 0, [], sg0),
  (.invokestatic 28, 14, 9, 0, 0, 1, [], sgX7_at),
  (.if_icmp .gt 21, 17, 10, 20, 0, 0, [], sg0),
  (.iload_n 2, 20, 11, 0, 0, 0, [], sg0),
  (.aload_n 0, 21, 12, 0, 0, 0, [], sg0),
  (.getfield 15, 22, 13, 3, 1, 0, [], sg0),
  (.iload_n 1, 25, 14, 0, 0, 0, [], sg0),
  (.invokestatic 28, 26, 15, 0, 0, 1, [], sgX7_at),
  (.iload_n 3, 29, 16, 0, 0, 0, [], sg0),
  (.isub, 30, 17, 0, 0, 0, [], sg0),
  (.if_icmp .gt 7, 31, 18, 20, 0, 0, [], sg0),
  (.iconst 1, 34, 19, 0, 0, 1, [], sg0),
  (.goto 4, 35, 20, 21, 0, 0, [], sg0),
  (.iconst 0, 38, 21, 0, 0, 0, [], sg0),
  (.ireturn, 39, 22, 0, 0, 0, [], sg0),
  (.nop, 40, 22, 0, 0, 0, [], sg0)]
set_option maxRecDepth 100000 in
theorem okX3_holdsRun : Chk sgX3_holdsRun kX3_holdsRun := ⟨by decide +kernel, tb_list [248, 345, 95, 346, 248, 345, 95, 346] (by decide +kernel) (by decide +kernel), nw_list [791, 791] (by decide +kernel) (by decide +kernel), by decide +kernel⟩
def kX3_read : List Row := [(.aload_n 0, 0, 1, 0, 0, 0, [], sg0),
  (.getfield 18, 1, 2, 3, 2, 0, [], sg0),
  (.iload_n 1, 4, 3, 0, 0, 0, [], sg0),
  (.bipush 40, 5, 4, 0, 0, 40, [], sg0),
  (.imul, 7, 5, 0, 0, 0, [], sg0),
  (.iload_n 2, 8, 6, 0, 0, 0, [], sg0),
  (.iadd, 9, 7, 0, 0, 0, [], sg0),
  (.invokestatic 28, 10, 8, 0, 0, 1, [], sgX7_at),
  (.ireturn, 13, 9, 0, 0, 0, [], sg0),
  (.nop, 14, 9, 0, 0, 0, [], sg0)]
set_option maxRecDepth 100000 in
theorem okX3_read : Chk sgX3_read kX3_read := ⟨by decide +kernel, tb_list [250, 345, 95, 346] (by decide +kernel) (by decide +kernel), nw_list [791] (by decide +kernel) (by decide +kernel), by decide +kernel⟩
def kX3_write : List Row := [(.aload_n 0, 0, 1, 0, 0, 0, [], sg0),
  (.getfield 9, 1, 2, 3, 0, 0, [], sg0),
  (.iload_n 1, 4, 3, 0, 0, 0, [], sg0),
  (.invokestatic 28, 5, 4, 0, 0, 1, [], sgX7_at),
  (.istore 4, 8, 5, 0, 0, 0, [], sg0),
  (.iload 4, 10, 6, 0, 0, 0, [], sg0),
  (.ifCond .ne 8, 12, 7, 10, 0, 0, [], sg0),
  (.iload_n 3, 15, 8, 0, 0, 0, [], sg0),
  (.i2b, 16, 9, 0, 0, 0, [], sg0),
  (.goto 15, 17, 10, 17, 0, 0, [], sg0),
  (.iload 4, 20, 11, 0, 0, 0, [], sg0),
  (.iconst 1, 22, 12, 0, 0, 1, [], sg0),
  (.if_icmp .ne 8, 23, 13, 16, 0, 0, [], sg0),
  (.iload_n 3, 26, 14, 0, 0, 0, [], sg0),
  (.i2s, 27, 15, 0, 0, 0, [], sg0),
  (.goto 4, 28, 16, 17, 0, 0, [], sg0),
  (.iload_n 3, 31, 17, 0, 0, 0, [], sg0),
  (.istore 5, 32, 18, 0, 0, 0, [], sg0),
  (.aload_n 0, 34, 19, 0, 0, 0, [], sg0),
  (.getfield 18, 35, 20, 3, 2, 0, [], sg0),
  (.iload_n 1, 38, 21, 0, 0, 0, [], sg0),
  (.bipush 40, 39, 22, 0, 0, 40, [], sg0),
  (.imul, 41, 23, 0, 0, 0, [], sg0),
  (.iload_n 2, 42, 24, 0, 0, 0, [], sg0),
  (.iadd, 43, 25, 0, 0, 0, [], sg0),
  (.iload 5, 44, 26, 0, 0, 0, [], sg0),
  (.invokestatic 24, 46, 27, 0, 0, 1, [], sgX7_put),
  (.return_, 49, 28, 0, 0, 0, [], sg0),
  (.nop, 50, 28, 0, 0, 0, [], sg0)]
set_option maxRecDepth 100000 in
theorem okX3_write : Chk sgX3_write kX3_write := ⟨by decide +kernel, tb_list [246, 345, 95, 346, 250, 193, 95, 194] (by decide +kernel) (by decide +kernel), nw_list [791, 245] (by decide +kernel) (by decide +kernel), by decide +kernel⟩
def kX3_move : List Row := [(.iconst 0, 0, 1, 0, 0, 0, [], sg0),
  (.istore 6, 1, 2, 0, 0, 0, [], sg0),
  (.iload 6, 3, 3, 0, 0, 0, [], sg0),
  (.iload 5, 5, 4, 0, 0, 0, [], sg0),
  (.if_icmp .ge 27, 7, 5, 17, 0, 0, [], sg0),
  (.aload_n 0, 10, 6, 0, 0, 0, [], sg0),
  (.getfield 21, 11, 7, 3, 3, 0, [], sg0),
  (.iload 6, 14, 8, 0, 0, 0, [], sg0),
  (.aload_n 0, 16, 9, 0, 0, 0, [], sg0),
  (.iload_n 1, 17, 10, 0, 0, 0, [], sg0),
  (.iload_n 2, 18, 11, 0, 0, 0, [], sg0),
  (.iload 6, 19, 12, 0, 0, 0, [], sg0),
  (.iadd, 21, 13, 0, 0, 0, [], sg0),
  (.invokevirtual 36, 22, 14, 3, 0, 0, [], sgX3_read),
  (.invokestatic 24, 25, 15, 0, 0, 1, [], sgX7_put),
  (.iinc 6 1, 28, 16, 0, 0, 1, [], sg0),
  (.goto (-28), 31, 17, 2, 0, 0, [], sg0),
  (.iconst 0, 34, 18, 0, 0, 0, [], sg0),
  (.istore 6, 35, 19, 0, 0, 0, [], sg0),
  (.iload 6, 37, 20, 0, 0, 0, [], sg0),
  (.iload 5, 39, 21, 0, 0, 0, [], sg0),
  (.if_icmp .ge 28, 41, 22, 34, 0, 0, [], sg0),
  (.aload_n 0, 44, 23, 0, 0, 0, [], sg0),
  (.iload_n 3, 45, 24, 0, 0, 0, [], sg0),
  (.iload 4, 46, 25, 0, 0, 0, [], sg0),
  (.iload 6, 48, 26, 0, 0, 0, [], sg0),
  (.iadd, 50, 27, 0, 0, 0, [], sg0),
  (.aload_n 0, 51, 28, 0, 0, 0, [], sg0),
  (.getfield 21, 52, 29, 3, 3, 0, [], sg0),
  (.iload 6, 55, 30, 0, 0, 0, [], sg0),
  (.invokestatic 28, 57, 31, 0, 0, 1, [], sgX7_at),
  (.invokevirtual 40, 60, 32, 3, 0, 0, [], sgX3_write),
  (.iinc 6 1, 63, 33, 0, 0, 1, [], sg0),
  (.goto (-29), 66, 34, 19, 0, 0, [], sg0),
  (.return_, 69, 35, 0, 0, 0, [], sg0),
  (.nop, 70, 35, 0, 0, 0, [], sg0)]
set_option maxRecDepth 100000 in
theorem okX3_move : Chk sgX3_move kX3_move := ⟨by decide +kernel, tb_list [251, 873, 798, 53, 101, 799, 193, 95, 194, 251, 345, 95, 346, 874, 810, 55, 101, 811] (by decide +kernel) (by decide +kernel), nw_list [245, 791] (by decide +kernel) (by decide +kernel), by decide +kernel⟩
def kX4_init : List Row := [(.aload_n 0, 0, 1, 0, 0, 0, [], sg0),
  (.invokespecial 3, 1, 2, 0, 9, 0, [], sg0),
  (.aload_n 0, 4, 3, 0, 0, 0, [], sg0),
  (.iconst 5, 5, 4, 0, 0, 5, [], sg0),
  (.newarray .int, 6, 5, 0, 0, 0, [], sg0),
  (.putfield 9, 8, 6, 4, 0, 0, [], sg0),
  (.aload_n 0, 11, 7, 0, 0, 0, [], sg0),
  (.iconst 5, 12, 8, 0, 0, 5, [], sg0),
  (.newarray .int, 13, 9, 0, 0, 0, [], sg0),
  (.putfield 15, 15, 10, 4, 1, 0, [], sg0),
  (.aload_n 0, 18, 11, 0, 0, 0, [], sg0),
  (.bipush 36, 19, 12, 0, 0, 36, [], sg0),
  (.newarray .int, 21, 13, 0, 0, 0, [], sg0),
  (.putfield 18, 23, 14, 4, 2, 0, [], sg0),
  (.return_, 26, 15, 0, 0, 0, [], sg0),
  (.nop, 27, 15, 0, 0, 0, [], sg0)]
set_option maxRecDepth 100000 in
theorem okX4_init : Chk sgX4_init kX4_init := ⟨by decide +kernel, tb_list [214, 116, 117, 147, 215, 147, 217, 147, 219] (by decide +kernel) (by decide +kernel), nw_list [] (by decide +kernel) (by decide +kernel), by decide +kernel⟩
def kX4_become : List Row := [(.aload_n 0, 0, 1, 0, 0, 0, [], sg0),
  (.getfield 9, 1, 2, 4, 0, 0, [], sg0),
  (.iload_n 1, 4, 3, 0, 0, 0, [], sg0),
  (.iload_n 2, 5, 4, 0, 0, 0, [], sg0),
  (.invokestatic 21, 6, 5, 0, 0, 1, [], sgX7_put),
  (.aload_n 0, 9, 6, 0, 0, 0, [], sg0),
  (.getfield 15, 10, 7, 4, 1, 0, [], sg0),
  (.iload_n 1, 13, 8, 0, 0, 0, [], sg0),
  (.iload_n 3, 14, 9, 0, 0, 0, [], sg0),
  (.invokestatic 21, 15, 10, 0, 0, 1, [], sgX7_put),
  (.return_, 18, 11, 0, 0, 0, [], sg0),
  (.nop, 19, 11, 0, 0, 0, [], sg0)]
set_option maxRecDepth 100000 in
theorem okX4_become : Chk sgX4_become kX4_become := ⟨by decide +kernel, tb_list [215, 193, 95, 194, 217, 193, 95, 194] (by decide +kernel) (by decide +kernel), nw_list [570, 570] (by decide +kernel) (by decide +kernel), by decide +kernel⟩
def kX4_append : List Row := [(.aload_n 0, 0, 1, 0, 0, 0, [], sg0),
  (.getfield 25, 1, 2, 4, 4, 0, [], sg0),
  (.bipush 12, 4, 3, 0, 0, 12, [], sg0),
  (.if_icmp .lt 4, 6, 4, 5, 0, 0, [], sg0),
  (.return_, 9, 5, 0, 0, 0, [], sg0),
  (.aload_n 0, 10, 6, 0, 0, 0, [], sg0),
  (.getfield 18, 11, 7, 4, 2, 0, [], sg0),
  (.iconst 3, 14, 8, 0, 0, 3, [], sg0),
  (.aload_n 0, 15, 9, 0, 0, 0, [], sg0),
  (.getfield 25, 16, 10, 4, 4, 0, [], sg0),
  (.imul, 19, 11, 0, 0, 0, [], sg0),
  (.iload_n 1, 20, 12, 0, 0, 0, [], sg0),
  (.invokestatic 21, 21, 13, 0, 0, 1, [], sgX7_put),
  (.aload_n 0, 24, 14, 0, 0, 0, [], sg0),
  (.getfield 18, 25, 15, 4, 2, 0, [], sg0),
  (.iconst 3, 28, 16, 0, 0, 3, [], sg0),
  (.aload_n 0, 29, 17, 0, 0, 0, [], sg0),
  (.getfield 25, 30, 18, 4, 4, 0, [], sg0),
  (.imul, 33, 19, 0, 0, 0, [], sg0),
  (.iconst 1, 34, 20, 0, 0, 1, [], sg0),
  (.iadd, 35, 21, 0, 0, 0, [], sg0),
  (.iload_n 2, 36, 22, 0, 0, 0, [], sg0),
  (.invokestatic 21, 37, 23, 0, 0, 1, [], sgX7_put),
  (.aload_n 0, 40, 24, 0, 0, 0, [], sg0),
  (.getfield 18, 41, 25, 4, 2, 0, [], sg0),
  (.iconst 3, 44, 26, 0, 0, 3, [], sg0),
  (.aload_n 0, 45, 27, 0, 0, 0, [], sg0),
  (.getfield 25, 46, 28, 4, 4, 0, [], sg0),
  (.imul, 49, 29, 0, 0, 0, [], sg0),
  (.iconst 2, 50, 30, 0, 0, 2, [], sg0),
  (.iadd, 51, 31, 0, 0, 0, [], sg0),
  (.iload_n 3, 52, 32, 0, 0, 0, [], sg0),
  (.invokestatic 21, 53, 33, 0, 0, 1, [], sgX7_put),
  (.aload_n 0, 56, 34, 0, 0, 0, [], sg0),
  (.dup, 57, 35, 0, 0, 0, [], sg0),
  (.getfield 25, 58, 36, 4, 4, 0, [], sg0),
  (.iconst 1, 61, 37, 0, 0, 1, [], sg0),
  (.iadd, 62, 38, 0, 0, 0, [], sg0),
  (.putfield 25, 63, 39, 4, 4, 0, [], sg0),
  (.return_, 66, 40, 0, 0, 0, [], sg0),
  (.nop, 67, 40, 0, 0, 0, [], sg0)]
set_option maxRecDepth 100000 in
theorem okX4_append : Chk sgX4_append kX4_append := ⟨by decide +kernel, tb_list [223, 219, 223, 193, 95, 194, 219, 223, 193, 95, 194, 219, 223, 193, 95, 194, 223, 223] (by decide +kernel) (by decide +kernel), nw_list [570, 570, 570] (by decide +kernel) (by decide +kernel), by decide +kernel⟩
def kX4_sayingPart : List Row := [(.aload_n 0, 0, 1, 0, 0, 0, [], sg0),
  (.getfield 18, 1, 2, 4, 2, 0, [], sg0),
  (.iconst 3, 4, 3, 0, 0, 3, [], sg0),
  (.iload_n 1, 5, 4, 0, 0, 0, [], sg0),
  (.imul, 6, 5, 0, 0, 0, [], sg0),
  (.iload_n 2, 7, 6, 0, 0, 0, [], sg0),
  (.iadd, 8, 7, 0, 0, 0, [], sg0),
  (.invokestatic 29, 9, 8, 0, 0, 1, [], sgX7_at),
  (.ireturn, 12, 9, 0, 0, 0, [], sg0),
  (.nop, 13, 9, 0, 0, 0, [], sg0)]
set_option maxRecDepth 100000 in
theorem okX4_sayingPart : Chk sgX4_sayingPart kX4_sayingPart := ⟨by decide +kernel, tb_list [219, 345, 95, 346] (by decide +kernel) (by decide +kernel), nw_list [604] (by decide +kernel) (by decide +kernel), by decide +kernel⟩
def kX4_becomeLike : List Row := [(.aload_n 1, 0, 1, 0, 0, 0, [], sg0),
  (.ifnonnull 4, 1, 2, 3, 0, 0, [], sg0),
  (.return_, 4, 3, 0, 0, 0, [], sg0),
  (.iconst 0, 5, 4, 0, 0, 0, [], sg0),
  (.istore_n 2, 6, 5, 0, 0, 0, [], sg0),
  (.iload_n 2, 7, 6, 0, 0, 0, [], sg0),
  (.iconst 5, 8, 7, 0, 0, 5, [], sg0),
  (.if_icmp .ge 30, 9, 8, 21, 0, 0, [], sg0),
  (.aload_n 0, 12, 9, 0, 0, 0, [], sg0),
  (.iload_n 2, 13, 10, 0, 0, 0, [], sg0),
  (.aload_n 1, 14, 11, 0, 0, 0, [], sg0),
  (.getfield 9, 15, 12, 4, 0, 0, [], sg0),
  (.iload_n 2, 18, 13, 0, 0, 0, [], sg0),
  (.invokestatic 29, 19, 14, 0, 0, 1, [], sgX7_at),
  (.aload_n 1, 22, 15, 0, 0, 0, [], sg0),
  (.getfield 15, 23, 16, 4, 1, 0, [], sg0),
  (.iload_n 2, 26, 17, 0, 0, 0, [], sg0),
  (.invokestatic 29, 27, 18, 0, 0, 1, [], sgX7_at),
  (.invokevirtual 33, 30, 19, 4, 0, 0, [], sgX4_become),
  (.iinc 2 1, 33, 20, 0, 0, 1, [], sg0),
  (.goto (-29), 36, 21, 5, 0, 0, [], sg0),
  (.iconst 0, 39, 22, 0, 0, 0, [], sg0),
  (.istore_n 2, 40, 23, 0, 0, 0, [], sg0),
  (.iload_n 2, 41, 24, 0, 0, 0, [], sg0),
  (.bipush 36, 42, 25, 0, 0, 36, [], sg0),
  (.if_icmp .ge 25, 44, 26, 36, 0, 0, [], sg0),
  (.aload_n 0, 47, 27, 0, 0, 0, [], sg0),
  (.getfield 18, 48, 28, 4, 2, 0, [], sg0),
  (.iload_n 2, 51, 29, 0, 0, 0, [], sg0),
  (.aload_n 1, 52, 30, 0, 0, 0, [], sg0),
  (.getfield 18, 53, 31, 4, 2, 0, [], sg0),
  (.iload_n 2, 56, 32, 0, 0, 0, [], sg0),
  (.invokestatic 29, 57, 33, 0, 0, 1, [], sgX7_at),
  (.invokestatic 21, 60, 34, 0, 0, 1, [], sgX7_put),
  (.iinc 2 1, 63, 35, 0, 0, 1, [], sg0),
  (.goto (-25), 66, 36, 23, 0, 0, [], sg0),
  (.aload_n 0, 69, 37, 0, 0, 0, [], sg0),
  (.aload_n 1, 70, 38, 0, 0, 0, [], sg0),
  (.getfield 37, 71, 39, 4, 3, 0, [], sg0),
  (.putfield 37, 74, 40, 4, 3, 0, [], sg0),
  (.aload_n 0, 77, 41, 0, 0, 0, [], sg0),
  (.aload_n 1, 78, 42, 0, 0, 0, [], sg0),
  (.getfield 25, 79, 43, 4, 4, 0, [], sg0),
  (.putfield 25, 82, 44, 4, 4, 0, [], sg0),
  (.aload_n 0, 85, 45, 0, 0, 0, [], sg0),
  (.aload_n 1, 86, 46, 0, 0, 0, [], sg0),
  (.getfield 40, 87, 47, 4, 5, 0, [], sg0),
  (.putfield 40, 90, 48, 4, 5, 0, [], sg0),
  (.return_, 93, 49, 0, 0, 0, [], sg0),
  (.nop, 94, 49, 0, 0, 0, [], sg0)]
set_option maxRecDepth 100000 in
theorem okX4_becomeLike : Chk sgX4_becomeLike kX4_becomeLike := ⟨by decide +kernel, tb_list [215, 345, 95, 346, 217, 345, 95, 346, 843, 568, 28, 100, 569, 219, 219, 345, 95, 346, 193, 95, 194, 221, 221, 223, 223, 225, 225] (by decide +kernel) (by decide +kernel), nw_list [604, 604, 604, 570] (by decide +kernel) (by decide +kernel), by decide +kernel⟩
def kX5_init : List Row := [(.aload_n 0, 0, 1, 0, 0, 0, [], sg0),
  (.invokespecial 3, 1, 2, 0, 9, 0, [], sg0),
  (.aload_n 0, 4, 3, 0, 0, 0, [], sg0),
  (.bipush 30, 5, 4, 0, 0, 30, [], sg0),
  (.newarray .int, 7, 5, 0, 0, 0, [], sg0),
  (.putfield 9, 9, 6, 5, 0, 0, [], sg0),
  (.aload_n 0, 12, 7, 0, 0, 0, [], sg0),
  (.bipush 30, 13, 8, 0, 0, 30, [], sg0),
  (.newarray .int, 15, 9, 0, 0, 0, [], sg0),
  (.putfield 15, 17, 10, 5, 1, 0, [], sg0),
  (.aload_n 0, 20, 11, 0, 0, 0, [], sg0),
  (.bipush 30, 21, 12, 0, 0, 30, [], sg0),
  (.newarray .int, 23, 13, 0, 0, 0, [], sg0),
  (.putfield 18, 25, 14, 5, 2, 0, [], sg0),
  (.iconst 0, 28, 15, 0, 0, 0, [], sg0),
  (.istore_n 1, 29, 16, 0, 0, 0, [], sg0),
  (.iload_n 1, 30, 17, 0, 0, 0, [], sg0),
  (.iconst 5, 31, 18, 0, 0, 5, [], sg0),
  (.if_icmp .ge 27, 32, 19, 31, 0, 0, [], sg0),
  (.aload_n 0, 35, 20, 0, 0, 0, [], sg0),
  (.getfield 9, 36, 21, 5, 0, 0, [], sg0),
  (.iload_n 1, 39, 22, 0, 0, 0, [], sg0),
  (.iconst (-1), 40, 23, 0, 0, (-1), [], sg0),
  (.invokestatic 21, 41, 24, 0, 0, 1, [], sgX7_put),
  (.aload_n 0, 44, 25, 0, 0, 0, [], sg0),
  (.getfield 18, 45, 26, 5, 2, 0, [], sg0),
  (.iload_n 1, 48, 27, 0, 0, 0, [], sg0),
  (.iconst 1, 49, 28, 0, 0, 1, [], sg0),
  (.invokestatic 21, 50, 29, 0, 0, 1, [], sgX7_put),
  (.iinc 1 1, 53, 30, 0, 0, 1, [], sg0),
  (.goto (-26), 56, 31, 16, 0, 0, [], sg0),
  (.aload_n 0, 59, 32, 0, 0, 0, [], sg0),
  (.iconst 1, 60, 33, 0, 0, 1, [], sg0),
  (.putfield 25, 61, 34, 5, 3, 0, [], sg0),
  (.return_, 64, 35, 0, 0, 0, [], sg0),
  (.nop, 65, 35, 0, 0, 0, [], sg0)]
set_option maxRecDepth 100000 in
theorem okX5_init : Chk sgX5_init kX5_init := ⟨by decide +kernel, tb_list [191, 116, 117, 147, 195, 147, 196, 147, 197, 195, 193, 95, 194, 197, 193, 95, 194, 198] (by decide +kernel) (by decide +kernel), nw_list [192, 192] (by decide +kernel) (by decide +kernel), by decide +kernel⟩
def kX5_add : List Row := [(.aload_n 0, 0, 1, 0, 0, 0, [], sg0),
  (.getfield 25, 1, 2, 5, 3, 0, [], sg0),
  (.bipush 6, 4, 3, 0, 0, 6, [], sg0),
  (.if_icmp .lt 4, 6, 4, 5, 0, 0, [], sg0),
  (.return_, 9, 5, 0, 0, 0, [], sg0),
  (.iconst 0, 10, 6, 0, 0, 0, [], sg0),
  (.istore_n 2, 11, 7, 0, 0, 0, [], sg0),
  (.iload_n 2, 12, 8, 0, 0, 0, [], sg0),
  (.iconst 5, 13, 9, 0, 0, 5, [], sg0),
  (.if_icmp .ge 70, 14, 10, 48, 0, 0, [], sg0),
  (.aload_n 0, 17, 11, 0, 0, 0, [], sg0),
  (.getfield 25, 18, 12, 5, 3, 0, [], sg0),
  (.iconst 5, 21, 13, 0, 0, 5, [], sg0),
  (.imul, 22, 14, 0, 0, 0, [], sg0),
  (.iload_n 2, 23, 15, 0, 0, 0, [], sg0),
  (.iadd, 24, 16, 0, 0, 0, [], sg0),
  (.istore_n 3, 25, 17, 0, 0, 0, [], sg0),
  (.aload_n 0, 26, 18, 0, 0, 0, [], sg0),
  (.getfield 9, 27, 19, 5, 0, 0, [], sg0),
  (.iload_n 3, 30, 20, 0, 0, 0, [], sg0),
  (.aload_n 1, 31, 21, 0, 0, 0, [], sg0),
  (.iconst 0, 32, 22, 0, 0, 0, [], sg0),
  (.iload_n 2, 33, 23, 0, 0, 0, [], sg0),
  (.invokevirtual 29, 34, 24, 0, 0, 1, [], sgX0_truths),
  (.invokestatic 21, 37, 25, 0, 0, 1, [], sgX7_put),
  (.aload_n 0, 40, 26, 0, 0, 0, [], sg0),
  (.getfield 15, 41, 27, 5, 1, 0, [], sg0),
  (.iload_n 3, 44, 28, 0, 0, 0, [], sg0),
  (.aload_n 1, 45, 29, 0, 0, 0, [], sg0),
  (.iconst 1, 46, 30, 0, 0, 1, [], sg0),
  (.iload_n 2, 47, 31, 0, 0, 0, [], sg0),
  (.invokevirtual 29, 48, 32, 0, 0, 1, [], sgX0_truths),
  (.invokestatic 21, 51, 33, 0, 0, 1, [], sgX7_put),
  (.aload_n 0, 54, 34, 0, 0, 0, [], sg0),
  (.getfield 18, 55, 35, 5, 2, 0, [], sg0),
  (.iload_n 3, 58, 36, 0, 0, 0, [], sg0),
  (.iconst 0, 59, 37, 0, 0, 0, [], sg0),
  (.bipush 99, 60, 38, 0, 0, 99, [], sg0),
  (.aload_n 1, 62, 39, 0, 0, 0, [], sg0),
  (.iconst 2, 63, 40, 0, 0, 2, [], sg0),
  (.iconst 0, 64, 41, 0, 0, 0, [], sg0),
  (.iload_n 2, 65, 42, 0, 0, 0, [], sg0),
  (.invokevirtual 35, 66, 43, 0, 0, 1, [], sgX0_valueOf),
  (.invokestatic 39, 69, 44, 0, 0, 0, [], sgJ9_min_7cf53),
  (.invokestatic 44, 72, 45, 0, 0, 0, [], sgJ9_max_7cf53),
  (.invokestatic 21, 75, 46, 0, 0, 1, [], sgX7_put),
  (.iinc 2 1, 78, 47, 0, 0, 1, [], sg0),
  (.goto (-69), 81, 48, 7, 0, 0, [], sg0),
  (.aload_n 0, 84, 49, 0, 0, 0, [], sg0),
  (.dup, 85, 50, 0, 0, 0, [], sg0),
  (.getfield 25, 86, 51, 5, 3, 0, [], sg0),
  (.iconst 1, 89, 52, 0, 0, 1, [], sg0),
  (.iadd, 90, 53, 0, 0, 0, [], sg0),
  (.putfield 25, 91, 54, 5, 3, 0, [], sg0),
  (.return_, 94, 55, 0, 0, 0, [], sg0),
  (.nop, 95, 55, 0, 0, 0, [], sg0)]
set_option maxRecDepth 100000 in
theorem okX5_add : Chk sgX5_add kX5_add := ⟨by decide +kernel, tb_list [198, 198, 195, 482, 20, 97, 483, 193, 95, 194, 196, 482, 20, 97, 483, 193, 95, 194, 197, 486, 21, 97, 487, 508, 509, 108, 510, 511, 512, 108, 513, 193, 95, 194, 198, 198] (by decide +kernel) (by decide +kernel), nw_list [480, 192, 480, 192, 507, 192] (by decide +kernel) (by decide +kernel), by decide +kernel⟩
def kX5_side : List Row := [(.iload_n 3, 0, 1, 0, 0, 0, [], sg0),
  (.ifCond .ne 10, 1, 2, 5, 0, 0, [], sg0),
  (.aload_n 0, 4, 3, 0, 0, 0, [], sg0),
  (.getfield 9, 5, 4, 5, 0, 0, [], sg0),
  (.goto 7, 8, 5, 7, 0, 0, [], sg0),
  (.aload_n 0, 11, 6, 0, 0, 0, [], sg0),
  (.getfield 15, 12, 7, 5, 1, 0, [], sg0),
  (.iload_n 1, 15, 8, 0, 0, 0, [], sg0),
  (.iconst 5, 16, 9, 0, 0, 5, [], sg0),
  (.imul, 17, 10, 0, 0, 0, [], sg0),
  (.iload_n 2, 18, 11, 0, 0, 0, [], sg0),
  (.iadd, 19, 12, 0, 0, 0, [], sg0),
  (.invokestatic 47, 20, 13, 0, 0, 1, [], sgX7_at),
  (.ireturn, 23, 14, 0, 0, 0, [], sg0),
  (.nop, 24, 14, 0, 0, 0, [], sg0)]
set_option maxRecDepth 100000 in
theorem okX5_side : Chk sgX5_side kX5_side := ⟨by decide +kernel, tb_list [195, 196, 345, 95, 346] (by decide +kernel) (by decide +kernel), nw_list [537] (by decide +kernel) (by decide +kernel), by decide +kernel⟩
def kX5_costOf : List Row := [(.aload_n 0, 0, 1, 0, 0, 0, [], sg0),
  (.getfield 18, 1, 2, 5, 2, 0, [], sg0),
  (.iload_n 1, 4, 3, 0, 0, 0, [], sg0),
  (.iconst 5, 5, 4, 0, 0, 5, [], sg0),
  (.imul, 6, 5, 0, 0, 0, [], sg0),
  (.iload_n 2, 7, 6, 0, 0, 0, [], sg0),
  (.iadd, 8, 7, 0, 0, 0, [], sg0),
  (.invokestatic 47, 9, 8, 0, 0, 1, [], sgX7_at),
  (.ireturn, 12, 9, 0, 0, 0, [], sg0),
  (.nop, 13, 9, 0, 0, 0, [], sg0)]
set_option maxRecDepth 100000 in
theorem okX5_costOf : Chk sgX5_costOf kX5_costOf := ⟨by decide +kernel, tb_list [197, 345, 95, 346] (by decide +kernel) (by decide +kernel), nw_list [537] (by decide +kernel) (by decide +kernel), by decide +kernel⟩
def kX6_init : List Row := [(.aload_n 0, 0, 1, 0, 0, 0, [], sg0),
  (.invokespecial 3, 1, 2, 0, 9, 0, [], sg0),
  (.aload_n 0, 4, 3, 0, 0, 0, [], sg0),
  (.sipush 160, 5, 4, 0, 0, 160, [], sg0),
  (.newarray .int, 8, 5, 0, 0, 0, [], sg0),
  (.putfield 9, 10, 6, 6, 0, 0, [], sg0),
  (.return_, 13, 7, 0, 0, 0, [], sg0),
  (.nop, 14, 7, 0, 0, 0, [], sg0)]
set_option maxRecDepth 100000 in
theorem okX6_init : Chk sgX6_init kX6_init := ⟨by decide +kernel, tb_list [123, 116, 117, 147, 124] (by decide +kernel) (by decide +kernel), nw_list [] (by decide +kernel) (by decide +kernel), by decide +kernel⟩
def kX6_append : List Row := [(.aload_n 0, 0, 1, 0, 0, 0, [], sg0),
  (.getfield 15, 1, 2, 6, 1, 0, [], sg0),
  (.sipush 160, 4, 3, 0, 0, 160, [], sg0),
  (.if_icmp .lt 4, 7, 4, 5, 0, 0, [], sg0),
  (.return_, 10, 5, 0, 0, 0, [], sg0),
  (.aload_n 0, 11, 6, 0, 0, 0, [], sg0),
  (.getfield 9, 12, 7, 6, 0, 0, [], sg0),
  (.aload_n 0, 15, 8, 0, 0, 0, [], sg0),
  (.getfield 15, 16, 9, 6, 1, 0, [], sg0),
  (.iload_n 1, 19, 10, 0, 0, 0, [], sg0),
  (.invokestatic 19, 20, 11, 0, 0, 1, [], sgX7_put),
  (.aload_n 0, 23, 12, 0, 0, 0, [], sg0),
  (.dup, 24, 13, 0, 0, 0, [], sg0),
  (.getfield 15, 25, 14, 6, 1, 0, [], sg0),
  (.iconst 1, 28, 15, 0, 0, 1, [], sg0),
  (.iadd, 29, 16, 0, 0, 0, [], sg0),
  (.putfield 15, 30, 17, 6, 1, 0, [], sg0),
  (.return_, 33, 18, 0, 0, 0, [], sg0),
  (.nop, 34, 18, 0, 0, 0, [], sg0)]
set_option maxRecDepth 100000 in
theorem okX6_append : Chk sgX6_append kX6_append := ⟨by decide +kernel, tb_list [125, 124, 125, 193, 95, 194, 125, 125] (by decide +kernel) (by decide +kernel), nw_list [327] (by decide +kernel) (by decide +kernel), by decide +kernel⟩
def kX6_start : List Row := [(.aload_n 0, 0, 1, 0, 0, 0, [], sg0),
  (.iconst 0, 1, 2, 0, 0, 0, [], sg0),
  (.putfield 23, 2, 3, 6, 5, 0, [], sg0),
  (.aload_n 0, 5, 4, 0, 0, 0, [], sg0),
  (.invokevirtual 26, 6, 5, 6, 0, 0, [], sgX6_advance),
  (.return_, 9, 6, 0, 0, 0, [], sg0),
  (.nop, 10, 6, 0, 0, 0, [], sg0)]
set_option maxRecDepth 100000 in
theorem okX6_start : Chk sgX6_start kX6_start := ⟨by decide +kernel, tb_list [133, 340, 342, 3, 96, 343] (by decide +kernel) (by decide +kernel), nw_list [] (by decide +kernel) (by decide +kernel), by decide +kernel⟩
def kX6_advance : List Row := [(.aload_n 0, 0, 1, 0, 0, 0, [], sg0),
  (.aload_n 0, 1, 2, 0, 0, 0, [], sg0),
  (.getfield 23, 2, 3, 6, 5, 0, [], sg0),
  (.putfield 29, 5, 4, 6, 4, 0, [], sg0),
  (.iconst 0, 8, 5, 0, 0, 0, [], sg0),
  (.istore_n 1, 9, 6, 0, 0, 0, [], sg0),
  (.iload_n 1, 10, 7, 0, 0, 0, [], sg0),
  (.sipush 160, 11, 8, 0, 0, 160, [], sg0),
  (.if_icmp .ge 47, 14, 9, 29, 0, 0, [], sg0),
  (.aload_n 0, 17, 10, 0, 0, 0, [], sg0),
  (.getfield 29, 18, 11, 6, 4, 0, [], sg0),
  (.aload_n 0, 21, 12, 0, 0, 0, [], sg0),
  (.getfield 15, 22, 13, 6, 1, 0, [], sg0),
  (.if_icmp .ge 36, 25, 14, 29, 0, 0, [], sg0),
  (.aload_n 0, 28, 15, 0, 0, 0, [], sg0),
  (.getfield 9, 29, 16, 6, 0, 0, [], sg0),
  (.aload_n 0, 32, 17, 0, 0, 0, [], sg0),
  (.getfield 29, 33, 18, 6, 4, 0, [], sg0),
  (.invokestatic 32, 36, 19, 0, 0, 1, [], sgX7_at),
  (.invokestatic 36, 39, 20, 0, 0, 0, [], sgX6_isBlank),
  (.ifCond .eq 19, 42, 21, 29, 0, 0, [], sg0),
  (.aload_n 0, 45, 22, 0, 0, 0, [], sg0),
  (.dup, 46, 23, 0, 0, 0, [], sg0),
  (.getfield 29, 47, 24, 6, 4, 0, [], sg0),
  (.iconst 1, 50, 25, 0, 0, 1, [], sg0),
  (.iadd, 51, 26, 0, 0, 0, [], sg0),
  (.putfield 29, 52, 27, 6, 4, 0, [], sg0),
  (.iinc 1 1, 55, 28, 0, 0, 1, [], sg0),
  (.goto (-48), 58, 29, 6, 0, 0, [], sg0),
  (.aload_n 0, 61, 30, 0, 0, 0, [], sg0),
  (.iconst 0, 62, 31, 0, 0, 0, [], sg0),
  (.putfield 40, 63, 32, 6, 3, 0, [], sg0),
  (.aload_n 0, 66, 33, 0, 0, 0, [], sg0),
  (.getfield 29, 67, 34, 6, 4, 0, [], sg0),
  (.aload_n 0, 70, 35, 0, 0, 0, [], sg0),
  (.getfield 15, 71, 36, 6, 1, 0, [], sg0),
  (.if_icmp .lt 19, 74, 37, 45, 0, 0, [], sg0),
  (.aload_n 0, 77, 38, 0, 0, 0, [], sg0),
  (.aload_n 0, 78, 39, 0, 0, 0, [], sg0),
  (.getfield 29, 79, 40, 6, 4, 0, [], sg0),
  (.putfield 23, 82, 41, 6, 5, 0, [], sg0),
  (.aload_n 0, 85, 42, 0, 0, 0, [], sg0),
  (.iconst 0, 86, 43, 0, 0, 0, [], sg0),
  (.putfield 43, 87, 44, 6, 2, 0, [], sg0),
  (.goto 97, 90, 45, 87, 0, 0, [], sg0),
  (.aload_n 0, 93, 46, 0, 0, 0, [], sg0),
  (.getfield 9, 94, 47, 6, 0, 0, [], sg0),
  (.aload_n 0, 97, 48, 0, 0, 0, [], sg0),
  (.getfield 29, 98, 49, 6, 4, 0, [], sg0),
  (.invokestatic 32, 101, 50, 0, 0, 1, [], sgX7_at),
  (.invokestatic 46, 104, 51, 0, 0, 0, [], sgX6_isLetter),
  (.ifCond .eq 10, 107, 52, 55, 0, 0, [], sg0),
  (.aload_n 0, 110, 53, 0, 0, 0, [], sg0),
  (.invokevirtual 49, 111, 54, 6, 0, 0, [], sgX6_readWord),
  (.goto 73, 114, 55, 87, 0, 0, [], sg0),
  (.aload_n 0, 117, 56, 0, 0, 0, [], sg0),
  (.getfield 9, 118, 57, 6, 0, 0, [], sg0),
  (.aload_n 0, 121, 58, 0, 0, 0, [], sg0),
  (.getfield 29, 122, 59, 6, 4, 0, [], sg0),
  (.invokestatic 32, 125, 60, 0, 0, 1, [], sgX7_at),
  (.invokestatic 52, 128, 61, 0, 0, 0, [], sgX6_isDigit),
  (.ifCond .eq 10, 131, 62, 65, 0, 0, [], sg0),
  (.aload_n 0, 134, 63, 0, 0, 0, [], sg0),
  (.invokevirtual 55, 135, 64, 6, 0, 0, [], sgX6_readNumber),
  (.goto 49, 138, 65, 87, 0, 0, [], sg0),
  (.aload_n 0, 141, 66, 0, 0, 0, [], sg0),
  (.aload_n 0, 142, 67, 0, 0, 0, [], sg0),
  (.getfield 29, 143, 68, 6, 4, 0, [], sg0),
  (.iconst 1, 146, 69, 0, 0, 1, [], sg0),
  (.iadd, 147, 70, 0, 0, 0, [], sg0),
  (.putfield 23, 148, 71, 6, 5, 0, [], sg0),
  (.aload_n 0, 151, 72, 0, 0, 0, [], sg0),
  (.aload_n 0, 152, 73, 0, 0, 0, [], sg0),
  (.getfield 9, 153, 74, 6, 0, 0, [], sg0),
  (.aload_n 0, 156, 75, 0, 0, 0, [], sg0),
  (.getfield 29, 157, 76, 6, 4, 0, [], sg0),
  (.invokestatic 32, 160, 77, 0, 0, 1, [], sgX7_at),
  (.invokestatic 58, 163, 78, 0, 0, 0, [], sgX6_isSign),
  (.ifCond .eq 17, 166, 79, 85, 0, 0, [], sg0),
  (.aload_n 0, 169, 80, 0, 0, 0, [], sg0),
  (.getfield 9, 170, 81, 6, 0, 0, [], sg0),
  (.aload_n 0, 173, 82, 0, 0, 0, [], sg0),
  (.getfield 29, 174, 83, 6, 4, 0, [], sg0),
  (.invokestatic 32, 177, 84, 0, 0, 1, [], sgX7_at),
  (.goto 4, 180, 85, 86, 0, 0, [], sg0),
  (.iconst 1, 183, 86, 0, 0, 1, [], sg0),
  (.putfield 43, 184, 87, 6, 2, 0, [], sg0),
  (.return_, 187, 88, 0, 0, 0, [], sg0),
  (.nop, 188, 88, 0, 0, 0, [], sg0)]
def kX6_advance_0 : List Row := [(.aload_n 0, 0, 1, 0, 0, 0, [], sg0),
  (.aload_n 0, 1, 2, 0, 0, 0, [], sg0),
  (.getfield 23, 2, 3, 6, 5, 0, [], sg0),
  (.putfield 29, 5, 4, 6, 4, 0, [], sg0),
  (.iconst 0, 8, 5, 0, 0, 0, [], sg0),
  (.istore_n 1, 9, 6, 0, 0, 0, [], sg0),
  (.iload_n 1, 10, 7, 0, 0, 0, [], sg0),
  (.sipush 160, 11, 8, 0, 0, 160, [], sg0),
  (.if_icmp .ge 47, 14, 9, 29, 0, 0, [], sg0),
  (.aload_n 0, 17, 10, 0, 0, 0, [], sg0),
  (.getfield 29, 18, 11, 6, 4, 0, [], sg0),
  (.aload_n 0, 21, 12, 0, 0, 0, [], sg0),
  (.getfield 15, 22, 13, 6, 1, 0, [], sg0),
  (.if_icmp .ge 36, 25, 14, 29, 0, 0, [], sg0),
  (.aload_n 0, 28, 15, 0, 0, 0, [], sg0),
  (.getfield 9, 29, 16, 6, 0, 0, [], sg0),
  (.aload_n 0, 32, 17, 0, 0, 0, [], sg0),
  (.getfield 29, 33, 18, 6, 4, 0, [], sg0),
  (.invokestatic 32, 36, 19, 0, 0, 1, [], sgX7_at),
  (.invokestatic 36, 39, 20, 0, 0, 0, [], sgX6_isBlank),
  (.ifCond .eq 19, 42, 21, 29, 0, 0, [], sg0),
  (.aload_n 0, 45, 22, 0, 0, 0, [], sg0),
  (.dup, 46, 23, 0, 0, 0, [], sg0),
  (.getfield 29, 47, 24, 6, 4, 0, [], sg0),
  (.iconst 1, 50, 25, 0, 0, 1, [], sg0),
  (.iadd, 51, 26, 0, 0, 0, [], sg0),
  (.putfield 29, 52, 27, 6, 4, 0, [], sg0),
  (.iinc 1 1, 55, 28, 0, 0, 1, [], sg0),
  (.goto (-48), 58, 29, 6, 0, 0, [], sg0),
  (.aload_n 0, 61, 30, 0, 0, 0, [], sg0),
  (.iconst 0, 62, 31, 0, 0, 0, [], sg0),
  (.putfield 40, 63, 32, 6, 3, 0, [], sg0),
  (.aload_n 0, 66, 33, 0, 0, 0, [], sg0),
  (.getfield 29, 67, 34, 6, 4, 0, [], sg0),
  (.aload_n 0, 70, 35, 0, 0, 0, [], sg0),
  (.getfield 15, 71, 36, 6, 1, 0, [], sg0),
  (.if_icmp .lt 19, 74, 37, 45, 0, 0, [], sg0),
  (.aload_n 0, 77, 38, 0, 0, 0, [], sg0),
  (.aload_n 0, 78, 39, 0, 0, 0, [], sg0),
  (.getfield 29, 79, 40, 6, 4, 0, [], sg0)]
set_option maxRecDepth 100000 in
theorem rX6_advance_0 : kX6_advance_0.all (rowB sgX6_advance kX6_advance) = true := by decide +kernel
def kX6_advance_1 : List Row := [(.putfield 23, 82, 41, 6, 5, 0, [], sg0),
  (.aload_n 0, 85, 42, 0, 0, 0, [], sg0),
  (.iconst 0, 86, 43, 0, 0, 0, [], sg0),
  (.putfield 43, 87, 44, 6, 2, 0, [], sg0),
  (.goto 97, 90, 45, 87, 0, 0, [], sg0),
  (.aload_n 0, 93, 46, 0, 0, 0, [], sg0),
  (.getfield 9, 94, 47, 6, 0, 0, [], sg0),
  (.aload_n 0, 97, 48, 0, 0, 0, [], sg0),
  (.getfield 29, 98, 49, 6, 4, 0, [], sg0),
  (.invokestatic 32, 101, 50, 0, 0, 1, [], sgX7_at),
  (.invokestatic 46, 104, 51, 0, 0, 0, [], sgX6_isLetter),
  (.ifCond .eq 10, 107, 52, 55, 0, 0, [], sg0),
  (.aload_n 0, 110, 53, 0, 0, 0, [], sg0),
  (.invokevirtual 49, 111, 54, 6, 0, 0, [], sgX6_readWord),
  (.goto 73, 114, 55, 87, 0, 0, [], sg0),
  (.aload_n 0, 117, 56, 0, 0, 0, [], sg0),
  (.getfield 9, 118, 57, 6, 0, 0, [], sg0),
  (.aload_n 0, 121, 58, 0, 0, 0, [], sg0),
  (.getfield 29, 122, 59, 6, 4, 0, [], sg0),
  (.invokestatic 32, 125, 60, 0, 0, 1, [], sgX7_at),
  (.invokestatic 52, 128, 61, 0, 0, 0, [], sgX6_isDigit),
  (.ifCond .eq 10, 131, 62, 65, 0, 0, [], sg0),
  (.aload_n 0, 134, 63, 0, 0, 0, [], sg0),
  (.invokevirtual 55, 135, 64, 6, 0, 0, [], sgX6_readNumber),
  (.goto 49, 138, 65, 87, 0, 0, [], sg0),
  (.aload_n 0, 141, 66, 0, 0, 0, [], sg0),
  (.aload_n 0, 142, 67, 0, 0, 0, [], sg0),
  (.getfield 29, 143, 68, 6, 4, 0, [], sg0),
  (.iconst 1, 146, 69, 0, 0, 1, [], sg0),
  (.iadd, 147, 70, 0, 0, 0, [], sg0),
  (.putfield 23, 148, 71, 6, 5, 0, [], sg0),
  (.aload_n 0, 151, 72, 0, 0, 0, [], sg0),
  (.aload_n 0, 152, 73, 0, 0, 0, [], sg0),
  (.getfield 9, 153, 74, 6, 0, 0, [], sg0),
  (.aload_n 0, 156, 75, 0, 0, 0, [], sg0),
  (.getfield 29, 157, 76, 6, 4, 0, [], sg0),
  (.invokestatic 32, 160, 77, 0, 0, 1, [], sgX7_at),
  (.invokestatic 58, 163, 78, 0, 0, 0, [], sgX6_isSign),
  (.ifCond .eq 17, 166, 79, 85, 0, 0, [], sg0),
  (.aload_n 0, 169, 80, 0, 0, 0, [], sg0)]
set_option maxRecDepth 100000 in
theorem rX6_advance_1 : kX6_advance_1.all (rowB sgX6_advance kX6_advance) = true := by decide +kernel
def kX6_advance_2 : List Row := [(.getfield 9, 170, 81, 6, 0, 0, [], sg0),
  (.aload_n 0, 173, 82, 0, 0, 0, [], sg0),
  (.getfield 29, 174, 83, 6, 4, 0, [], sg0),
  (.invokestatic 32, 177, 84, 0, 0, 1, [], sgX7_at),
  (.goto 4, 180, 85, 86, 0, 0, [], sg0),
  (.iconst 1, 183, 86, 0, 0, 1, [], sg0),
  (.putfield 43, 184, 87, 6, 2, 0, [], sg0),
  (.return_, 187, 88, 0, 0, 0, [], sg0),
  (.nop, 188, 88, 0, 0, 0, [], sg0)]
set_option maxRecDepth 100000 in
theorem rX6_advance_2 : kX6_advance_2.all (rowB sgX6_advance kX6_advance) = true := by decide +kernel
set_option maxRecDepth 100000 in
theorem okX6_advance : Chk sgX6_advance kX6_advance := ⟨rw_all (ls := [kX6_advance_0, kX6_advance_1, kX6_advance_2]) rfl (rw_cons rX6_advance_0 (rw_cons rX6_advance_1 (rw_cons rX6_advance_2 rw_nil))), tb_list [133, 131, 131, 125, 124, 131, 345, 95, 346, 347, 348, 96, 349, 131, 131, 129, 131, 125, 131, 133, 128, 124, 131, 345, 95, 346, 350, 351, 96, 352, 353, 355, 4, 96, 356, 124, 131, 345, 95, 346, 416, 417, 96, 418, 419, 421, 6, 96, 422, 131, 133, 124, 131, 345, 95, 346, 423, 424, 96, 425, 124, 131, 345, 95, 346, 128] (by decide +kernel) (by decide +kernel), nw_list [344, 344, 344, 344, 344] (by decide +kernel) (by decide +kernel), by decide +kernel⟩
def kX6_readNumber : List Row := [(.aload_n 0, 0, 1, 0, 0, 0, [], sg0),
  (.aload_n 0, 1, 2, 0, 0, 0, [], sg0),
  (.getfield 29, 2, 3, 6, 4, 0, [], sg0),
  (.putfield 23, 5, 4, 6, 5, 0, [], sg0),
  (.iconst 0, 8, 5, 0, 0, 0, [], sg0),
  (.istore_n 1, 9, 6, 0, 0, 0, [], sg0),
  (.iload_n 1, 10, 7, 0, 0, 0, [], sg0),
  (.sipush 160, 11, 8, 0, 0, 160, [], sg0),
  (.if_icmp .ge 73, 14, 9, 43, 0, 0, [], sg0),
  (.aload_n 0, 17, 10, 0, 0, 0, [], sg0),
  (.getfield 23, 18, 11, 6, 5, 0, [], sg0),
  (.aload_n 0, 21, 12, 0, 0, 0, [], sg0),
  (.getfield 15, 22, 13, 6, 1, 0, [], sg0),
  (.if_icmp .ge 62, 25, 14, 43, 0, 0, [], sg0),
  (.aload_n 0, 28, 15, 0, 0, 0, [], sg0),
  (.getfield 9, 29, 16, 6, 0, 0, [], sg0),
  (.aload_n 0, 32, 17, 0, 0, 0, [], sg0),
  (.getfield 23, 33, 18, 6, 5, 0, [], sg0),
  (.invokestatic 32, 36, 19, 0, 0, 1, [], sgX7_at),
  (.invokestatic 52, 39, 20, 0, 0, 0, [], sgX6_isDigit),
  (.ifCond .eq 45, 42, 21, 43, 0, 0, [], sg0),
  (.aload_n 0, 45, 22, 0, 0, 0, [], sg0),
  (.aload_n 0, 46, 23, 0, 0, 0, [], sg0),
  (.getfield 40, 47, 24, 6, 3, 0, [], sg0),
  (.bipush 10, 50, 25, 0, 0, 10, [], sg0),
  (.imul, 52, 26, 0, 0, 0, [], sg0),
  (.aload_n 0, 53, 27, 0, 0, 0, [], sg0),
  (.getfield 9, 54, 28, 6, 0, 0, [], sg0),
  (.aload_n 0, 57, 29, 0, 0, 0, [], sg0),
  (.getfield 23, 58, 30, 6, 5, 0, [], sg0),
  (.invokestatic 32, 61, 31, 0, 0, 1, [], sgX7_at),
  (.iadd, 64, 32, 0, 0, 0, [], sg0),
  (.bipush 48, 65, 33, 0, 0, 48, [], sg0),
  (.isub, 67, 34, 0, 0, 0, [], sg0),
  (.putfield 40, 68, 35, 6, 3, 0, [], sg0),
  (.aload_n 0, 71, 36, 0, 0, 0, [], sg0),
  (.dup, 72, 37, 0, 0, 0, [], sg0),
  (.getfield 23, 73, 38, 6, 5, 0, [], sg0),
  (.iconst 1, 76, 39, 0, 0, 1, [], sg0),
  (.iadd, 77, 40, 0, 0, 0, [], sg0),
  (.putfield 23, 78, 41, 6, 5, 0, [], sg0),
  (.iinc 1 1, 81, 42, 0, 0, 1, [], sg0),
  (.goto (-74), 84, 43, 6, 0, 0, [], sg0),
  (.aload_n 0, 87, 44, 0, 0, 0, [], sg0),
  (.aload_n 0, 88, 45, 0, 0, 0, [], sg0),
  (.getfield 23, 89, 46, 6, 5, 0, [], sg0),
  (.aload_n 0, 92, 47, 0, 0, 0, [], sg0),
  (.getfield 29, 93, 48, 6, 4, 0, [], sg0),
  (.isub, 96, 49, 0, 0, 0, [], sg0),
  (.iconst 4, 97, 50, 0, 0, 4, [], sg0),
  (.if_icmp .le 7, 98, 51, 53, 0, 0, [], sg0),
  (.iconst 1, 101, 52, 0, 0, 1, [], sg0),
  (.goto 4, 102, 53, 54, 0, 0, [], sg0),
  (.iconst 2, 105, 54, 0, 0, 2, [], sg0),
  (.putfield 43, 106, 55, 6, 2, 0, [], sg0),
  (.return_, 109, 56, 0, 0, 0, [], sg0),
  (.nop, 110, 56, 0, 0, 0, [], sg0)]
set_option maxRecDepth 100000 in
theorem okX6_readNumber : Chk sgX6_readNumber kX6_readNumber := ⟨by decide +kernel, tb_list [131, 133, 133, 125, 124, 133, 345, 95, 346, 416, 417, 96, 418, 129, 124, 133, 345, 95, 346, 129, 133, 133, 133, 131, 128] (by decide +kernel) (by decide +kernel), nw_list [344, 344] (by decide +kernel) (by decide +kernel), by decide +kernel⟩
def kX6_isBlank : List Row := [(.iload_n 0, 0, 1, 0, 0, 0, [], sg0),
  (.bipush 32, 1, 2, 0, 0, 32, [], sg0),
  (.if_icmp .eq 9, 3, 3, 6, 0, 0, [], sg0),
  (.iload_n 0, 6, 4, 0, 0, 0, [], sg0),
  (.bipush 10, 7, 5, 0, 0, 10, [], sg0),
  (.if_icmp .ne 7, 9, 6, 8, 0, 0, [], sg0),
  (.iconst 1, 12, 7, 0, 0, 1, [], sg0),
  (.goto 4, 13, 8, 9, 0, 0, [], sg0),
  (.iconst 0, 16, 9, 0, 0, 0, [], sg0),
  (.ireturn, 17, 10, 0, 0, 0, [], sg0),
  (.nop, 18, 10, 0, 0, 0, [], sg0)]
set_option maxRecDepth 100000 in
theorem okX6_isBlank : Chk sgX6_isBlank kX6_isBlank := ⟨by decide +kernel, tb_list [] (by decide +kernel) (by decide +kernel), nw_list [] (by decide +kernel) (by decide +kernel), by decide +kernel⟩
def kX6_isLetter : List Row := [(.iload_n 0, 0, 1, 0, 0, 0, [], sg0),
  (.bipush 97, 1, 2, 0, 0, 97, [], sg0),
  (.if_icmp .lt 13, 3, 3, 8, 0, 0, [], sg0),
  (.iload_n 0, 6, 4, 0, 0, 0, [], sg0),
  (.bipush 122, 7, 5, 0, 0, 122, [], sg0),
  (.if_icmp .gt 7, 9, 6, 8, 0, 0, [], sg0),
  (.iconst 1, 12, 7, 0, 0, 1, [], sg0),
  (.goto 4, 13, 8, 9, 0, 0, [], sg0),
  (.iconst 0, 16, 9, 0, 0, 0, [], sg0),
  (.ireturn, 17, 10, 0, 0, 0, [], sg0),
  (.nop, 18, 10, 0, 0, 0, [], sg0)]
set_option maxRecDepth 100000 in
theorem okX6_isLetter : Chk sgX6_isLetter kX6_isLetter := ⟨by decide +kernel, tb_list [] (by decide +kernel) (by decide +kernel), nw_list [] (by decide +kernel) (by decide +kernel), by decide +kernel⟩
def kX6_isDigit : List Row := [(.iload_n 0, 0, 1, 0, 0, 0, [], sg0),
  (.bipush 48, 1, 2, 0, 0, 48, [], sg0),
  (.if_icmp .lt 13, 3, 3, 8, 0, 0, [], sg0),
  (.iload_n 0, 6, 4, 0, 0, 0, [], sg0),
  (.bipush 57, 7, 5, 0, 0, 57, [], sg0),
  (.if_icmp .gt 7, 9, 6, 8, 0, 0, [], sg0),
  (.iconst 1, 12, 7, 0, 0, 1, [], sg0),
  (.goto 4, 13, 8, 9, 0, 0, [], sg0),
  (.iconst 0, 16, 9, 0, 0, 0, [], sg0),
  (.ireturn, 17, 10, 0, 0, 0, [], sg0),
  (.nop, 18, 10, 0, 0, 0, [], sg0)]
set_option maxRecDepth 100000 in
theorem okX6_isDigit : Chk sgX6_isDigit kX6_isDigit := ⟨by decide +kernel, tb_list [] (by decide +kernel) (by decide +kernel), nw_list [] (by decide +kernel) (by decide +kernel), by decide +kernel⟩
def kX6_isSign : List Row := [(.iload_n 0, 0, 1, 0, 0, 0, [], sg0),
  (.tableswitch 105 40 61 #[103, 103, 103, 103, 105, 103, 105, 105, 105, 105, 105, 105, 105, 105, 105, 105, 105, 105, 105, 103, 103, 103], 1, 2, 4, 0, 0, [2, 2, 2, 2, 4, 2, 4, 4, 4, 4, 4, 4, 4, 4, 4, 4, 4, 4, 4, 2, 2, 2], sg0),
  (.iconst 1, 104, 3, 0, 0, 1, [], sg0),
  (.ireturn, 105, 4, 0, 0, 0, [], sg0),
  (.iconst 0, 106, 5, 0, 0, 0, [], sg0),
  (.ireturn, 107, 6, 0, 0, 0, [], sg0),
  (.nop, 108, 6, 0, 0, 0, [], sg0)]
set_option maxRecDepth 100000 in
theorem okX6_isSign : Chk sgX6_isSign kX6_isSign := ⟨by decide +kernel, tb_list [] (by decide +kernel) (by decide +kernel), nw_list [] (by decide +kernel) (by decide +kernel), by decide +kernel⟩
