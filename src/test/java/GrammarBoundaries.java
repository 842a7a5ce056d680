/** Promises 16 to 18, and what the document's term 4 says of the GRAMMAR. */
final class GrammarBoundaries extends Boundaries {
    /** THE ROW and all RULES, and that there is none behind. */
    private static void dueGrammar(Subject x, int[] row, int[]... rules) {
        due("grammar(0)", x.grammar(0), row.length + 2 * rules.length);
        due("grammar(1)", x.grammar(1), rules.length);
        due("grammar(2)", x.grammar(2), row.length);
        for (int i = 0; i < rules.length; i++) {
            due("first symbol of rule " + (16 + i), x.rule(16 + i, 0), rules[i][0]);
            due("second symbol of rule " + (16 + i), x.rule(16 + i, 1), rules[i][1]);
        }
        for (int i = 0; i < row.length; i++) {
            due("symbol " + i, x.symbol(i), row[i]);
        }
        due("rule behind the last", x.rule(16 + rules.length, 0), BAD);
        due("symbol behind the last", x.symbol(row.length), NO_INDEX);
    }

    private static Subject fullOfOneSign() {
        return filled(MOST_SIGNS, p -> 5);
    }

    private static void promise16ThePartsAre0To2() {
        Subject x = of(5, 5, 5, 5, 5);
        due("what = -1", x.grammar(-1), BAD);
        due("what = 0", x.grammar(0), 5);
        due("what = 1", x.grammar(1), 1);
        due("what = 2", x.grammar(2), 3);
        due("what = 3", x.grammar(3), BAD);
        dueBadOfWild("grammar", x::grammar);
    }

    private static void promise16OfNoTextIs0() {
        dueGrammar(new Subject(), row());
        due("what = 3", new Subject().grammar(3), BAD);
        Subject x = of(5, 5, 5, 5);
        x.grammar(0);
        x.wipe();
        dueGrammar(x, row());
    }

    private static void promise16OfOneSignHasNoRule() {
        dueGrammar(of(0), row(0));
        dueGrammar(of(15), row(15));
        dueGrammar(of(15, 15), row(15, 15));
    }

    private static void promise16APairThatStandsOnceIsNoRule() {
        dueGrammar(of(1, 2, 3), row(1, 2, 3));
        dueGrammar(of(1, 2, 1), row(1, 2, 1));
        dueGrammar(filled(16, p -> p), row(0, 1, 2, 3, 4, 5, 6, 7, 8, 9, 10, 11, 12, 13, 14, 15));
    }

    private static void promise16APairThatStandsTwiceIsARule() {
        dueGrammar(of(1, 2, 1, 2), row(16, 16), row(1, 2));
        dueGrammar(of(0, 15, 7, 0, 15), row(16, 7, 16), row(0, 15));
    }

    private static void promise16PairsWithinOneCountedDoNotCount() {
        dueGrammar(of(5, 5, 5), row(5, 5, 5));
        dueGrammar(of(6, 5, 5, 5), row(6, 5, 5, 5));
        dueGrammar(of(6, 7, 5, 5, 5, 8), row(6, 7, 5, 5, 5, 8));
        dueGrammar(of(5, 5, 5, 5), row(16, 16), row(5, 5));
        dueGrammar(of(5, 5, 5, 5, 5), row(16, 16, 5), row(5, 5));
        dueGrammar(of(5, 5, 5, 6, 5, 5, 5), row(17, 6, 17), row(5, 5), row(16, 5));
        // 1 1 stands once in 1 1 1, 1 2 stands twice.
        dueGrammar(of(1, 1, 1, 2, 0, 1, 2), row(1, 1, 16, 0, 16), row(1, 2));
    }

    private static void promise16CountsAnewBehindOneThatDidNotCount() {
        // 1 1 stands at 0 and 2 of the five, and at 6; 1 2 stands twice.
        dueGrammar(of(1, 1, 1, 1, 1, 2, 1, 1, 3, 1, 2), row(16, 16, 17, 16, 3, 17), row(1, 1), row(1, 2));
    }

    private static void promise16OfAFullText() {
        Subject x = fullOfOneSign();
        dueGrammar(x, row(22, 22, 22, 19), row(5, 5), row(16, 16), row(17, 17), row(18, 18),
                row(19, 19), row(20, 20), row(21, 21));
        Subject y = filled(MOST_SIGNS, p -> p * p * p % 17 % 16);
        Model model = modelOf(MOST_SIGNS, p -> p * p * p % 17 % 16);
        for (int what = 0; what < 3; what++) {
            due("grammar(" + what + ")", y.grammar(what), model.grammar(what));
        }
    }

    /** Every rule takes two symbols from THE ROW, until the two halves are one symbol each. */
    private static void promise16HasAtMost199Rules() {
        int[] half = withoutPairTwice(MOST_SIGNS / 2);
        Subject x = filled(MOST_SIGNS, p -> half[p % half.length]);
        Model model = modelOf(MOST_SIGNS, p -> half[p % half.length]);
        due("size", x.grammar(0), 2 * 199 + 2);
        due("rules", x.grammar(1), 199);
        due("row", x.grammar(2), 2);
        due("symbol 0", x.symbol(0), 214);
        due("symbol 1", x.symbol(1), 214);
        due("symbol 2", x.symbol(2), NO_INDEX);
        for (int number = 174; number < 215; number++) {
            due("first symbol of " + number, x.rule(number, 0), model.rule(number, 0));
            due("second symbol of " + number, x.rule(number, 1), model.rule(number, 1));
        }
        due("rule behind the last", x.rule(215, 0), BAD);
    }

    private static int[] withoutPairTwice(int size) {
        int[] signs = new int[size];
        boolean[] seen = new boolean[256];
        for (int p = 1; p < size; p++) {
            int s = 15;
            while (seen[signs[p - 1] * 16 + s]) {
                s--;
            }
            signs[p] = s;
            seen[signs[p - 1] * 16 + s] = true;
        }
        return signs;
    }

    private static void promise16FollowsTheText() {
        Subject x = of(5, 5, 5);
        dueGrammar(x, row(5, 5, 5));
        x.sign(5);
        dueGrammar(x, row(16, 16), row(5, 5));
        x.order(3);
        dueGrammar(x, row(16, 16), row(5, 5));
    }

    private static void promise16TheRowEndsWithTheText() {
        Subject x = of(5, 5, 5, 5, 5, 5);
        dueGrammar(x, row(16, 16, 16), row(5, 5));
        x.wipe();
        for (int p = 0; p < 5; p++) {
            x.sign(5);
        }
        dueGrammar(x, row(16, 16, 5), row(5, 5));
        // The last sign of a full text is the first of no pair, though it could begin one.
        Subject y = filled(MOST_SIGNS, p -> p == 0 ? 1 : 5);
        due("rules", y.grammar(1), modelOf(MOST_SIGNS, p -> p == 0 ? 1 : 5).grammar(1));
        int last = y.grammar(2) - 1;
        due("the first symbol", y.symbol(0), 1);
        due("the last symbol", y.symbol(last), 5);
        due("symbol behind the last", y.symbol(last + 1), NO_INDEX);
    }

    private static void promise16ChangesNothing() {
        dueUnchanged("grammar", Boundaries::ordinary, x -> {
            x.grammar(0);
            x.grammar(-1);
            x.grammar(3);
        });
    }

    private static void promise17TheFirstRuleIs16() {
        Subject x = of(1, 2, 1, 2);
        for (int side = 0; side < 2; side++) {
            due("rule -1", x.rule(-1, side), BAD);
            due("rule 0", x.rule(0, side), BAD);
            due("rule 15", x.rule(15, side), BAD);
            due("rule 16", x.rule(16, side), side + 1);
            due("rule 17", x.rule(17, side), BAD);
        }
    }

    private static void promise17ThereIsNoRuleBehindTheLast() {
        Subject x = fullOfOneSign();
        due("rule 22", x.rule(22, 0), 21);
        due("rule 23", x.rule(23, 0), BAD);
        due("rule 23's second", x.rule(23, 1), BAD);
        due("rule 216", x.rule(216, 0), BAD);
        due("rule 416", x.rule(416, 0), BAD);
        x.wipe();
        due("rule 16 behind a wipe", x.rule(16, 0), BAD);
        due("rule 16 of a new one", new Subject().rule(16, 0), BAD);
        due("rule 16 of no pair twice", of(1, 2, 3).rule(16, 1), BAD);
    }

    private static void promise17TheSidesAre0And1() {
        Subject x = of(1, 2, 1, 2);
        due("side -1", x.rule(16, -1), BAD);
        due("side 0", x.rule(16, 0), 1);
        due("side 1", x.rule(16, 1), 2);
        due("side 2", x.rule(16, 2), BAD);
    }

    private static void promise17NumbersFarOutAreBad() {
        Subject x = of(1, 2, 1, 2);
        dueBadOfWild("rule", number -> x.rule(number, 0));
        dueBadOfWild("rule's second", number -> x.rule(number, 1));
        dueBadOfWild("side", side -> x.rule(16, side));
        dueBadOfWild("both", n -> x.rule(n, n));
    }

    private static void promise17ThePairThatStandsMostOftenGoesFirst() {
        dueGrammar(of(1, 2, 9, 8, 3, 9, 8, 1, 2, 4, 9, 8), row(17, 16, 3, 16, 17, 4, 16),
                row(9, 8), row(1, 2));
    }

    private static void promise17OfEqualPairsTheLesserFirstSymbolGoesFirst() {
        dueGrammar(of(2, 1, 9, 1, 3, 8, 2, 1, 7, 1, 3), row(17, 9, 16, 8, 17, 7, 16), row(1, 3), row(2, 1));
        // Whether it is the first or the last that is met.
        dueGrammar(of(1, 3, 9, 2, 1, 8, 1, 3, 7, 2, 1), row(16, 9, 17, 8, 16, 7, 17), row(1, 3), row(2, 1));
    }

    private static void promise17OfEqualPairsTheLesserSecondSymbolGoesFirst() {
        dueGrammar(of(1, 3, 9, 1, 2, 8, 1, 3, 7, 1, 2), row(17, 9, 16, 8, 17, 7, 16), row(1, 2), row(1, 3));
        dueGrammar(of(1, 2, 9, 1, 3, 8, 1, 2, 7, 1, 3), row(16, 9, 17, 8, 16, 7, 17), row(1, 2), row(1, 3));
    }

    private static void promise17ARuleMayHaveRules() {
        dueGrammar(of(1, 2, 3, 1, 2, 3), row(17, 17), row(1, 2), row(16, 3));
        dueGrammar(of(3, 1, 2, 3, 1, 2), row(17, 17), row(1, 2), row(3, 16));
        dueGrammar(of(5, 5, 5, 5, 5, 5, 5, 5), row(17, 17), row(5, 5), row(16, 16));
    }

    private static void promise17ChangesNothing() {
        dueUnchanged("rules", Boundaries::ordinary, x -> {
            x.rule(16, 0);
            x.rule(16, 1);
            x.rule(15, 0);
            x.rule(99, 0);
            x.rule(16, 2);
        });
    }

    private static void promise18TheFirstSymbolIs0() {
        Subject x = of(7, 8, 9);
        due("symbol -1", x.symbol(-1), NO_INDEX);
        due("symbol 0", x.symbol(0), 7);
    }

    private static void promise18ThereIsNoSymbolBehindTheLast() {
        Subject x = of(7, 8, 9);
        due("symbol 2", x.symbol(2), 9);
        due("symbol 3", x.symbol(3), NO_INDEX);
        Subject y = of(7, 8, 7, 8);
        due("symbol 1 of two pairs", y.symbol(1), 16);
        // The text has a sign at places 2 and 3, THE ROW has no symbol there.
        due("symbol 2 of two pairs", y.symbol(2), NO_INDEX);
        due("symbol 3 of two pairs", y.symbol(3), NO_INDEX);
    }

    private static void promise18OfNoTextThereIsNoSymbol() {
        due("symbol 0 of a new one", new Subject().symbol(0), NO_INDEX);
        Subject x = of(7);
        due("symbol 0 of one sign", x.symbol(0), 7);
        x.wipe();
        due("symbol 0 behind a wipe", x.symbol(0), NO_INDEX);
    }

    private static void promise18OfAFullText() {
        Subject x = fullOfOneSign();
        due("symbol 3", x.symbol(3), 19);
        due("symbol 4", x.symbol(4), NO_INDEX);
        due("symbol 399", x.symbol(399), NO_INDEX);
        due("symbol 400", x.symbol(400), NO_INDEX);
        due("symbol 401", x.symbol(401), NO_INDEX);
    }

    private static void promise18NumbersFarOutThrow() {
        Subject x = of(7, 8, 9);
        for (int i : WILD) {
            due("symbol " + i, x.symbol(i), NO_INDEX);
        }
    }

    private static void promise18ChangesNothing() {
        dueUnchanged("symbols", Boundaries::ordinary, x -> {
            x.symbol(0);
            x.symbol(-1);
            x.symbol(99);
            x.symbol(Integer.MAX_VALUE);
        });
    }
}
