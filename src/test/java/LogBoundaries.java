import java.math.BigInteger;

/** Promises 7 to 11, and what the document's terms 2 and 3 say of logs, weights and costs. */
final class LogBoundaries extends Boundaries {
    private static final int CONTENT = 0, CROSS = 1, GROWING = 2;
    private static final int LOW = 0, HIGH = 1;

    private static void promise07TheLeastNumberIs1() {
        Subject x = new Subject();
        for (int side = 0; side < 2; side++) {
            due("log of 0", x.log(0, 0, side), BAD);
            due("log of -1", x.log(-1, 0, side), BAD);
            due("log of 1 to 0", x.log(1, 0, side), 0);
            due("log of 1 to 24", x.log(1, 24, side), 0);
        }
    }

    private static void promise07TheGreatestNumberIs1048576() {
        Subject x = new Subject();
        for (int side = 0; side < 2; side++) {
            due("log of 1048577", x.log(1048577, 0, side), BAD);
            due("log of 1048576 to 0", x.log(1048576, 0, side), 20);
            due("log of 1048576 to 24", x.log(1048576, 24, side), 20L << 24);
        }
        due("LOW of 1048575 to 0", x.log(1048575, 0, LOW), 19);
        due("HIGH of 1048575 to 0", x.log(1048575, 0, HIGH), 20);
        due("LOW of 1048575 to 24", x.log(1048575, 24, LOW), 335544296);
        due("HIGH of 1048575 to 24", x.log(1048575, 24, HIGH), 335544297);
    }

    private static void promise07TheLeastDigitsAre0() {
        Subject x = new Subject();
        due("to -1", x.log(3, -1, LOW), BAD);
        due("LOW to 0", x.log(3, 0, LOW), 1);
        due("HIGH to 0", x.log(3, 0, HIGH), 2);
    }

    private static void promise07TheMostDigitsAre24() {
        Subject x = new Subject();
        due("LOW to 24", x.log(3, 24, LOW), 26591258);
        due("HIGH to 24", x.log(3, 24, HIGH), 26591259);
        for (int digits : new int[] {25, 30, 31, 32, 33, 56, 63, 64, 65, 88}) {
            due("LOW to " + digits, x.log(3, digits, LOW), BAD);
            due("HIGH to " + digits, x.log(3, digits, HIGH), BAD);
            due("of a power of 2 to " + digits, x.log(4, digits, HIGH), BAD);
        }
    }

    private static void promise07TheSidesAre0And1() {
        Subject x = new Subject();
        due("side -1", x.log(3, 2, -1), BAD);
        due("side 0", x.log(3, 2, 0), 6);
        due("side 1", x.log(3, 2, 1), 7);
        due("side 2", x.log(3, 2, 2), BAD);
        due("side 2 of 1", x.log(1, 0, 2), BAD);
    }

    private static void promise07NumbersFarOutAreBad() {
        Subject x = new Subject();
        dueBadOfWild("log", n -> x.log(n, 3, LOW));
        dueBadOfWild("HIGH", n -> x.log(n, 3, HIGH));
        dueBadOfWild("digits", d -> x.log(3, d, LOW));
        dueBadOfWild("side", side -> x.log(3, 3, side));
        dueBadOfWild("all", n -> x.log(n, n, n));
    }

    private static void promise07OfAPowerOf2BothEndsAreTheSame() {
        for (int e = 0; e <= 20; e++) {
            Subject x = new Subject();
            for (int d = 0; d <= 24; d++) {
                due("LOW of 2^" + e + " to " + d, x.log(1 << e, d, LOW), (long) e << d);
                due("HIGH of 2^" + e + " to " + d, x.log(1 << e, d, HIGH), (long) e << d);
            }
        }
    }

    private static void promise07BesideAPowerOf2TheEndsAreApart() {
        for (int e = 2; e <= 20; e++) {
            Subject x = new Subject();
            due("LOW below 2^" + e, x.log((1 << e) - 1, 0, LOW), e - 1);
            due("HIGH below 2^" + e, x.log((1 << e) - 1, 0, HIGH), e);
            if (e < 20) {
                due("LOW above 2^" + e, x.log((1 << e) + 1, 0, LOW), e);
                due("HIGH above 2^" + e, x.log((1 << e) + 1, 0, HIGH), e + 1);
            }
            for (int d = 1; d <= 24; d++) {
                dueLogsByTheDocument(x, (1 << e) - 1, d);
                dueLogsByTheDocument(x, (1 << e - 1) + 1, d);
            }
        }
    }

    private static void dueLogsByTheDocument(Subject x, int n, int d) {
        due("LOW of " + n + " to " + d, x.log(n, d, LOW), Model.low(n, d));
        due("HIGH of " + n + " to " + d, x.log(n, d, HIGH), Model.high(n, d));
    }

    /** n^(2^d) between 2^LOW and 2^HIGH, in whole numbers. */
    private static void promise07LowIsNotAboveTheLogAndHighNotBelow() {
        for (int n : new int[] {1, 2, 3, 5, 7, 11, 13, 255, 257, 399, 415, 65535, 1048575, 1048576}) {
            Subject x = new Subject();
            for (int d = 0; d <= 10; d++) {
                BigInteger power = BigInteger.valueOf(n).pow(1 << d);
                BigInteger low = BigInteger.TWO.pow((int) x.log(n, d, LOW));
                BigInteger high = BigInteger.TWO.pow((int) x.log(n, d, HIGH));
                CHECKS.due("LOW of " + n + " to " + d + " is not above", low.compareTo(power) <= 0, true);
                CHECKS.due("HIGH of " + n + " to " + d + " is not below", high.compareTo(power) >= 0, true);
            }
        }
    }

    /** The two ends are cut and rounded up apart: here they differ by more than the 1 in the end. */
    private static void promise07RoundsUpAtTheHighEnd() {
        int apart = 0;
        for (int n = 1; n < 4000; n++) {
            Subject x = new Subject();
            dueLogsByTheDocument(x, n, 24);
            apart += x.log(n, 24, HIGH) - x.log(n, 24, LOW) > 1 ? 1 : 0;
        }
        CHECKS.due("some ends are further apart", apart > 0, true);
    }

    private static void promise07ChangesNothing() {
        dueUnchanged("logs", Boundaries::ordinary, x -> {
            x.log(9, 24, LOW);
            x.log(9, 3, HIGH);
            x.log(0, 3, LOW);
            x.log(9, 25, LOW);
            x.log(9, 3, 2);
        });
    }

    private static void promise07DoesNotAskTheText() {
        Subject x = ordinary();
        due("LOW of 10", x.log(10, 10, LOW), 3401);
        due("HIGH of 10", x.log(10, 10, HIGH), 3402);
        due("LOW of 10 again, to less", x.log(10, 9, LOW), 1700);
        due("HIGH of 10 again, to more", x.log(10, 11, HIGH), 6804);
    }

    private static void promise08TheWeightsAre0To1000() {
        Subject x = new Subject();
        due("weight -1", x.weight(2, -1), BAD);
        due("weight 1001", x.weight(2, 1001), BAD);
        due("weight 1000", x.weight(2, 1000), 0);
        due("weight 0", x.weight(2, 0), 1000);
        due("weight 1", x.weight(2, 1), 0);
    }

    private static void promise08TheSignsAre0To15() {
        Subject x = new Subject();
        due("sign -1", x.weight(-1, 5), BAD);
        due("sign 16", x.weight(16, 5), BAD);
        due("sign 0", x.weight(0, 5), 0);
        due("sign 15", x.weight(15, 6), 0);
        due("sign 0 again", x.weight(0, 0), 5);
        due("sign 15 again", x.weight(15, 0), 6);
    }

    private static void promise08NumbersFarOutAreBad() {
        Subject x = new Subject();
        dueBadOfWild("sign", s -> x.weight(s, 1));
        dueBadOfWild("weight", w -> x.weight(1, w));
        dueBadOfWild("both", n -> x.weight(n, n));
        due("weight of 1", x.weight(1, 0), 0);
    }

    private static void promise08AnswersWhatItWas() {
        Subject x = new Subject();
        due("at first", x.weight(4, 7), 0);
        due("the same again", x.weight(4, 7), 7);
        due("another", x.weight(4, 8), 7);
        due("of another sign", x.weight(5, 1), 0);
        due("the first", x.weight(4, 0), 8);
    }

    private static void promise08BadChangesNothing() {
        dueUnchanged("wrong weights", Boundaries::ordinary, x -> {
            x.weight(3, -1);
            x.weight(3, 1001);
            x.weight(-1, 4);
            x.weight(16, 4);
            x.weight(Integer.MIN_VALUE, Integer.MAX_VALUE);
            x.weight(3, Integer.MAX_VALUE);
        });
    }

    private static void promise08OfASignThatIsNotInTheText() {
        Subject x = of(1);
        x.weight(1, 1);
        x.weight(2, 1);
        due("the SUM has it", x.cost(CROSS, 0, LOW), 1);
        due("the text has not", x.length(), 1);
    }

    private static void promise09ThrowsOfTheSum0() {
        Subject x = of(1, 2);
        for (int s = 0; s < 16; s++) {
            due("share(" + s + ")", x.share(s), NO_QUOTIENT);
        }
        x.weight(7, 3);
        due("share of a sum of 3", x.share(7), "1000000");
        x.weight(7, 0);
        due("share of a sum of 0 again", x.share(7), NO_QUOTIENT);
    }

    private static void promise09ThrowsOfNoSuchSign() {
        Subject x = new Subject();
        x.weight(0, 1);
        x.weight(15, 1);
        due("share(-1)", x.share(-1), NO_INDEX);
        due("share(0)", x.share(0), "500000");
        due("share(15)", x.share(15), "500000");
        due("share(16)", x.share(16), NO_INDEX);
        for (int s : WILD) {
            due("share(" + s + ")", x.share(s), NO_INDEX);
        }
    }

    private static void promise09NoSuchSignComesBeforeTheSum0() {
        Subject x = new Subject();
        due("share(-1)", x.share(-1), NO_INDEX);
        due("share(16)", x.share(16), NO_INDEX);
        for (int s : WILD) {
            due("share(" + s + ")", x.share(s), NO_INDEX);
        }
    }

    private static void promise09IsCut() {
        Subject x = new Subject();
        x.weight(0, 1);
        x.weight(1, 2);
        due("a third", x.share(0), "333333");
        due("two thirds", x.share(1), "666666");
        due("nothing of it", x.share(2), "0");
    }

    private static void promise09OfTheLeastSum() {
        Subject x = new Subject();
        x.weight(15, 1);
        due("all of it", x.share(15), "1000000");
        due("nothing of it", x.share(0), "0");
    }

    private static void promise09OfTheGreatestSum() {
        Subject x = new Subject();
        for (int s = 0; s < 16; s++) {
            x.weight(s, 1000);
        }
        due("a sixteenth", x.share(0), "62500");
        x.weight(0, 1);
        due("1 in 15001", x.share(0), "66");
        due("1000 in 15001", x.share(15), "66662");
        x.weight(0, 0);
        due("0 in 15000", x.share(0), "0");
    }

    private static void promise09ChangesNothing() {
        dueUnchanged("shares", Boundaries::ordinary, x -> {
            x.share(3);
            x.share(-1);
            x.share(16);
        });
        dueUnchanged("shares of the sum 0", () -> of(1, 2, 1), x -> {
            x.share(0);
            x.share(16);
        });
    }

    private static void promise10TheKindsAre0To2() {
        Subject x = of(7);
        due("kind -1", x.cost(-1, 0, LOW), BAD);
        due("kind 0", x.cost(0, 0, LOW), 0);
        due("kind 2", x.cost(2, 0, LOW), 4);
        due("kind 3", x.cost(3, 0, LOW), BAD);
    }

    private static void promise10TheDigitsAre0To24() {
        Subject x = of(7);
        x.weight(7, 1);
        for (int kind = 0; kind < 3; kind++) {
            long bits = kind == GROWING ? 4 : 0;
            due("digits -1", x.cost(kind, -1, LOW), BAD);
            due("digits 0", x.cost(kind, 0, LOW), bits);
            due("digits 24", x.cost(kind, 24, HIGH), bits << 24);
            due("digits 25", x.cost(kind, 25, LOW), BAD);
            due("digits 32", x.cost(kind, 32, HIGH), BAD);
            due("digits 64", x.cost(kind, 64, HIGH), BAD);
        }
    }

    private static void promise10TheSidesAre0And1() {
        Subject x = of(0, 0, 0, 1);
        x.weight(0, 1);
        x.weight(1, 1);
        for (int kind = 0; kind < 3; kind++) {
            due("side -1", x.cost(kind, 0, -1), BAD);
            due("side 2", x.cost(kind, 0, 2), BAD);
        }
        due("LOW", x.cost(CONTENT, 0, 0), 2);
        due("HIGH", x.cost(CONTENT, 0, 1), 5);
    }

    private static void promise10NumbersFarOutAreBad() {
        Subject x = ordinary();
        dueBadOfWild("kind", kind -> x.cost(kind, 0, LOW));
        dueBadOfWild("digits of CONTENT", d -> x.cost(CONTENT, d, LOW));
        dueBadOfWild("digits of CROSS", d -> x.cost(CROSS, d, LOW));
        dueBadOfWild("digits of GROWING", d -> x.cost(GROWING, d, LOW));
        dueBadOfWild("side", side -> x.cost(GROWING, 0, side));
    }

    private static void promise10BadComesBeforeNone() {
        Subject x = of(1);
        due("CROSS without a weight", x.cost(CROSS, 0, LOW), NONE);
        due("digits -1", x.cost(CROSS, -1, LOW), BAD);
        due("digits 25", x.cost(CROSS, 25, LOW), BAD);
        due("side -1", x.cost(CROSS, 0, -1), BAD);
        due("side 2", x.cost(CROSS, 0, 2), BAD);
    }

    private static void promise10OfNoTextIs0() {
        Subject x = of(1, 2, 1);
        x.wipe();
        for (int kind = 0; kind < 3; kind++) {
            due("LOW of kind " + kind, x.cost(kind, 24, LOW), 0);
            due("HIGH of kind " + kind, x.cost(kind, 24, HIGH), 0);
        }
        x.weight(5, 5);
        due("CROSS of other weights", x.cost(CROSS, 24, HIGH), 0);
    }

    private static void promise10ContentOfATextNotLongerThanTheOrderIs0() {
        Subject x = of(1, 2, 3);
        x.order(3);
        due("of 3 signs", x.cost(CONTENT, 24, HIGH), 0);
        x.sign(4);
        due("of 4 signs", x.cost(CONTENT, 24, HIGH), 0);
        x.order(2);
        due("of order 2", x.cost(CONTENT, 24, HIGH), 0);
        x.order(0);
        due("of order 0", x.cost(CONTENT, 24, HIGH), 8L << 24);
    }

    private static void promise10ContentOfOneSignAloneIs0() {
        Subject x = of(4, 4, 4);
        due("LOW to 0", x.cost(CONTENT, 0, LOW), 0);
        due("HIGH to 0", x.cost(CONTENT, 0, HIGH), 0);
        due("HIGH to 24", x.cost(CONTENT, 24, HIGH), 0);
        x.sign(5);
        x.order(1);
        // Behind 4 stand 4, 4 and 5: 2 in 3 twice, 1 in 3.
        due("LOW of order 1", x.cost(CONTENT, 0, LOW), 1);
        due("HIGH of order 1", x.cost(CONTENT, 0, HIGH), 2 * (2 - 1) + 2);
    }

    private static void promise10TheLowOfContentIsNotBelow0() {
        Subject x = filled(7, p -> p < 6 ? 0 : 1);
        // LOW of 7 is 2 and HIGH of 6 is 3: 0 six times; then LOW of 7 less HIGH of 1.
        due("LOW", x.cost(CONTENT, 0, LOW), 2);
        due("HIGH", x.cost(CONTENT, 0, HIGH), 6 * (3 - 2) + 3);
    }

    private static void promise10TheLowOfCrossIsNotBelow0() {
        Subject x = of(0, 0, 1);
        x.weight(0, 6);
        x.weight(1, 1);
        due("LOW", x.cost(CROSS, 0, LOW), 2);
        due("HIGH", x.cost(CROSS, 0, HIGH), 2 * (3 - 2) + 3);
    }

    private static void promise10TheLowOfGrowingIsNotBelow0() {
        Subject x = filled(130, p -> 3);
        Model model = modelOf(130, p -> 3);
        // At place 99 the cost is that of 100 in 115: LOW of 115 is 6 and HIGH of 100 is 7.
        for (int d = 0; d <= 24; d += 3) {
            due("LOW to " + d, x.cost(GROWING, d, LOW), model.cost(GROWING, d, LOW));
            due("HIGH to " + d, x.cost(GROWING, d, HIGH), model.cost(GROWING, d, HIGH));
        }
    }

    private static void promise10CrossIsNoneIfASignHasTheWeight0() {
        Subject x = of(0, 15);
        due("no weight", x.cost(CROSS, 3, LOW), NONE);
        x.weight(0, 1);
        due("one weight, LOW", x.cost(CROSS, 3, LOW), NONE);
        due("one weight, HIGH", x.cost(CROSS, 3, HIGH), NONE);
        x.weight(15, 1);
        due("both weights", x.cost(CROSS, 3, LOW), 16);
        x.weight(0, 0);
        due("one weight is gone", x.cost(CROSS, 3, LOW), NONE);
        due("the other kinds", x.cost(CONTENT, 3, LOW), 16);
        x.weight(0, 1);
        x.sign(7);
        due("a sign without a weight comes", x.cost(CROSS, 3, LOW), NONE);
        x.wipe();
        due("no text", x.cost(CROSS, 3, LOW), 0);
    }

    private static void promise10CrossOfTheWholeSumIs0() {
        Subject x = of(2, 2);
        x.weight(2, 3);
        due("LOW", x.cost(CROSS, 0, LOW), 0);
        due("HIGH", x.cost(CROSS, 24, HIGH), 0);
        x.weight(3, 1);
        due("HIGH of 3 in 4", x.cost(CROSS, 0, HIGH), 2 * (2 - 1));
    }

    private static void promise10CrossOfTheGreatestSum() {
        Subject x = new Subject();
        for (int s = 0; s < 16; s++) {
            x.sign(s);
            x.weight(s, 1000);
        }
        Model model = modelOf(16, p -> p);
        for (int s = 0; s < 16; s++) {
            model.weight(s, 1000);
        }
        for (int d = 0; d <= 24; d += 8) {
            due("LOW to " + d, x.cost(CROSS, d, LOW), model.cost(CROSS, d, LOW));
            due("HIGH to " + d, x.cost(CROSS, d, HIGH), model.cost(CROSS, d, HIGH));
        }
    }

    private static void promise10GrowingBeginsWith1In16() {
        Subject x = of(15);
        due("LOW", x.cost(GROWING, 24, LOW), 4L << 24);
        due("HIGH", x.cost(GROWING, 24, HIGH), 4L << 24);
        // 2 in 17 of the same sign, 1 in 17 of another.
        due("the same again", of(15, 15).cost(GROWING, 0, LOW), 4 + 4 - 1);
        due("another", of(15, 0).cost(GROWING, 0, LOW), 4 + 4);
    }

    private static void promise10OfAFullText() {
        Subject x = filled(MOST_SIGNS, p -> p * p * p % 17 % 16);
        Model model = modelOf(MOST_SIGNS, p -> p * p * p % 17 % 16);
        for (int s = 0; s < 16; s++) {
            x.weight(s, 1 + 66 * s);
            model.weight(s, 1 + 66 * s);
        }
        for (int kind = 0; kind < 3; kind++) {
            long most = model.cost(kind, 24, HIGH);
            CHECKS.due("kind " + kind + " is beyond an int", most > Integer.MAX_VALUE, true);
            due("HIGH of kind " + kind, x.cost(kind, 24, HIGH), most);
            due("LOW of kind " + kind, x.cost(kind, 24, LOW), model.cost(kind, 24, LOW));
            due("LOW of kind " + kind + " to 0", x.cost(kind, 0, LOW), model.cost(kind, 0, LOW));
        }
        due("order(3)", x.order(3), model.order(3));
        due("CONTENT of order 3", x.cost(CONTENT, 24, HIGH), model.cost(CONTENT, 24, HIGH));
    }

    private static void promise10ChangesNothing() {
        dueUnchanged("costs", Boundaries::ordinary, x -> {
            x.cost(CONTENT, 24, LOW);
            x.cost(CROSS, 24, HIGH);
            x.cost(GROWING, 24, HIGH);
            x.cost(3, 0, 0);
            x.cost(0, 25, 0);
            x.cost(0, 0, 2);
        });
    }

    private static void promise11TheKindsAre0To2() {
        Subject x = of(7);
        due("kind -1", x.digits(-1, 5), BAD);
        due("kind 0", x.digits(0, 5), 0);
        due("kind 2", x.digits(2, 5), 0);
        due("kind 3", x.digits(3, 5), BAD);
    }

    private static void promise11TheGapsAre0To1000000() {
        Subject x = of(0, 0, 0, 1);
        due("w = -1", x.digits(CONTENT, -1), BAD);
        due("w = 0", x.digits(CONTENT, 0), NONE);
        due("w = 1", x.digits(CONTENT, 1), 12);
        due("w = 1000000", x.digits(CONTENT, 1000000), 0);
        due("w = 1000001", x.digits(CONTENT, 1000001), BAD);
    }

    private static void promise11NumbersFarOutAreBad() {
        Subject x = ordinary();
        dueBadOfWild("kind", kind -> x.digits(kind, 5));
        dueBadOfWild("w of CONTENT", w -> x.digits(CONTENT, w));
        dueBadOfWild("w of CROSS", w -> x.digits(CROSS, w));
        dueBadOfWild("w of GROWING", w -> x.digits(GROWING, w));
    }

    private static void promise11BadComesBeforeNone() {
        Subject x = of(1);
        due("CROSS without a weight", x.digits(CROSS, 0), NONE);
        due("w = -1", x.digits(CROSS, -1), BAD);
        due("w = 1000001", x.digits(CROSS, 1000001), BAD);
    }

    private static void promise11TheGapMayBeJustAsWide() {
        Subject x = of(0, 0, 0, 1);
        // HIGH less LOW is 3 to any digits, 3072 times 1024.
        for (int d = 0; d <= 10; d++) {
            due("w = 3072 / 2^" + d, x.digits(CONTENT, 3072 >> d), d);
            due("w one less", x.digits(CONTENT, (3072 >> d) - 1), d + 1);
        }
    }

    private static void promise11TheGapOfCrossMayBeJustAsWide() {
        Subject x = of(0, 1);
        x.weight(0, 1);
        x.weight(1, 2);
        // 1 in 3 and 2 in 3: HIGH less LOW is 2.
        due("w = 2048", x.digits(CROSS, 2048), 0);
        due("w = 2047", x.digits(CROSS, 2047), 1);
        due("w = 1", x.digits(CROSS, 1), 11);
    }

    private static void promise11TheGapOfGrowingMayBeJustAsWide() {
        Subject x = of(0, 1);
        // 1 in 16 is exact, 1 in 17 is not: HIGH less LOW is 1.
        due("w = 1024", x.digits(GROWING, 1024), 0);
        due("w = 1023", x.digits(GROWING, 1023), 1);
        due("w = 1", x.digits(GROWING, 1), 10);
        due("w = 0", x.digits(GROWING, 0), NONE);
    }

    private static void promise11TheGapHasALowThatIsNotBelow0() {
        Subject x = filled(7, p -> p < 6 ? 0 : 1);
        // HIGH is 9 and LOW is 2 to no digits.
        due("w = 7168", x.digits(CONTENT, 7168), 0);
        CHECKS.due("w = 7167 needs more", x.digits(CONTENT, 7167) > 0, true);
    }

    private static void promise11OfAnExactCostIs0() {
        due("no text", new Subject().digits(CROSS, 0), 0);
        due("CONTENT of powers of 2", of(0, 1, 2, 3).digits(CONTENT, 0), 0);
        due("CONTENT of one sign", of(5, 5, 5).digits(CONTENT, 0), 0);
        due("GROWING of one sign", of(5).digits(GROWING, 0), 0);
        Subject x = of(1, 2);
        x.weight(1, 4);
        x.weight(2, 4);
        due("CROSS of powers of 2", x.digits(CROSS, 0), 0);
    }

    private static void promise11IsNoneIfNot24DigitsAreEnough() {
        Subject x = of(0, 0, 1);
        x.weight(0, 1);
        x.weight(1, 2);
        for (int kind = 0; kind < 3; kind++) {
            due("w = 0 of kind " + kind, x.digits(kind, 0), NONE);
        }
    }

    private static void promise11IsNoneOfCrossWithoutAWeight() {
        Subject x = of(0, 1);
        due("no weight", x.digits(CROSS, 1000000), NONE);
        x.weight(0, 1);
        due("one weight", x.digits(CROSS, 1000000), NONE);
        x.weight(1, 1);
        due("both weights", x.digits(CROSS, 1000000), 0);
        x.weight(1, 0);
        due("a weight is gone", x.digits(CROSS, 1000000), NONE);
        x.wipe();
        due("no text", x.digits(CROSS, 0), 0);
    }

    private static void promise11OfAFullText() {
        Subject x = filled(MOST_SIGNS, p -> p * p * p % 17 % 16);
        Model model = modelOf(MOST_SIGNS, p -> p * p * p % 17 % 16);
        for (int s = 0; s < 16; s++) {
            x.weight(s, 7 + 60 * s);
            model.weight(s, 7 + 60 * s);
        }
        for (int kind = 0; kind < 3; kind++) {
            for (int w : new int[] {0, 1, 2, 3, 1000, 100000, 999999, 1000000}) {
                due("w = " + w + " of kind " + kind, x.digits(kind, w), model.digits(kind, w));
            }
        }
    }

    private static void promise11ChangesNothing() {
        dueUnchanged("digits", Boundaries::ordinary, x -> {
            x.digits(CONTENT, 0);
            x.digits(CROSS, 5);
            x.digits(GROWING, 9);
            x.digits(3, 0);
            x.digits(0, -1);
            x.digits(0, 1000001);
        });
    }
}
