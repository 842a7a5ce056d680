/** Promises 12 and 13, and what the document's term 3 says of WORDS and STEP WIDTHS. */
final class WordBoundaries extends Boundaries {
    private static final int WORD = 0, STEP = 1;

    /** Sign s as often as numbers[s] tells. */
    private static Subject timesOf(int... numbers) {
        Subject x = new Subject();
        for (int s = 0; s < numbers.length; s++) {
            for (int i = 0; i < numbers[s]; i++) {
                x.sign(s);
            }
        }
        return x;
    }

    private static void dueWidths(String text, Subject x, int kind, int... widths) {
        for (int s = 0; s < 16; s++) {
            due("width of " + s + " " + text, x.width(kind, s), s < widths.length ? widths[s] : 0);
        }
    }

    private static void promise12TheKindsAre0And1() {
        Subject x = of(3, 3);
        due("kind -1", x.width(-1, 3), BAD);
        due("kind 0", x.width(0, 3), 1);
        due("kind 1", x.width(1, 3), 0);
        due("kind 2", x.width(2, 3), BAD);
    }

    private static void promise12TheSignsAre0To15() {
        Subject x = of(0, 15);
        for (int kind = 0; kind < 2; kind++) {
            due("sign -1", x.width(kind, -1), BAD);
            due("sign 0", x.width(kind, 0), 1);
            due("sign 15", x.width(kind, 15), 1);
            due("sign 16", x.width(kind, 16), BAD);
        }
    }

    private static void promise12NumbersFarOutAreBad() {
        Subject x = of(1, 2, 3);
        dueBadOfWild("kind", kind -> x.width(kind, 1));
        dueBadOfWild("sign", s -> x.width(WORD, s));
        dueBadOfWild("sign of a step", s -> x.width(STEP, s));
        dueBadOfWild("both", n -> x.width(n, n));
    }

    private static void promise12OfASignThatIsNotThereIs0() {
        dueWidths("of no text", new Subject(), WORD);
        dueWidths("of no text, in steps", new Subject(), STEP);
        Subject x = of(2, 2, 4);
        dueWidths("of 2, 2, 4", x, WORD, 0, 0, 1, 0, 1);
        dueWidths("of 2, 2, 4, in steps", x, STEP, 0, 0, 1, 0, 2);
        x.wipe();
        dueWidths("behind a wipe", x, WORD);
        dueWidths("behind a wipe, in steps", x, STEP);
    }

    private static void promise12OfOneSignAloneIs1() {
        dueWidths("of one sign", of(0), WORD, 1);
        dueWidths("of one sign three times", of(2, 2, 2), WORD, 0, 0, 1);
        dueWidths("of one sign 400 times", filled(MOST_SIGNS, p -> 1), WORD, 0, 1);
    }

    private static void promise12OfTwoSignsIs1Each() {
        dueWidths("once each", of(0, 1), WORD, 1, 1);
        dueWidths("399 times and once", timesOf(1, 399), WORD, 1, 1);
    }

    private static void promise12JoinsTheLeastNumbersFirst() {
        dueWidths("of 8, 4, 2, 1", timesOf(8, 4, 2, 1), WORD, 1, 2, 3, 3);
        dueWidths("of 1, 2, 4, 8", timesOf(1, 2, 4, 8), WORD, 3, 3, 2, 1);
        dueWidths("of 1, 3, 1", timesOf(1, 3, 1), WORD, 2, 1, 2);
    }

    private static void promise12OfEqualSignsJoinsTheEarlierByTheirOrder() {
        dueWidths("of 2, 1, 0", of(2, 1, 0), WORD, 2, 2, 1);
        dueWidths("of 1, 2, 0", of(1, 2, 0), WORD, 2, 2, 1);
        dueWidths("of 2, 2, 2", timesOf(2, 2, 2), WORD, 2, 2, 1);
        dueWidths("of 1, 1, 1, 1, 1", timesOf(1, 1, 1, 1, 1), WORD, 3, 3, 2, 2, 2);
    }

    private static void promise12AJoinedTreeComesBehindEqualSigns() {
        dueWidths("of 1, 1, 2, 2", timesOf(1, 1, 2, 2), WORD, 2, 2, 2, 2);
        dueWidths("of 2, 2, 1, 1", timesOf(2, 2, 1, 1), WORD, 2, 2, 2, 2);
        dueWidths("of 1, 1, 2", timesOf(1, 1, 2), WORD, 2, 2, 1);
    }

    private static void promise12AJoinedTreeComesBehindEqualJoinedOnes() {
        // 0 and 1, 2 and 3, 4 and 5 become 2 each; the first two of these, 4, behind the last.
        dueWidths("of six", timesOf(1, 1, 1, 1, 1, 1), WORD, 3, 3, 3, 3, 2, 2);
        // 0 and 1 become 2; 2 and 3 become 4 behind the sign 4, which is 4 too and joins the 2.
        dueWidths("of 1, 1, 2, 2, 4", timesOf(1, 1, 2, 2, 4), WORD, 3, 3, 2, 2, 2);
    }

    private static void promise12OfAll16SignsIs4() {
        int[] fours = {4, 4, 4, 4, 4, 4, 4, 4, 4, 4, 4, 4, 4, 4, 4, 4};
        dueWidths("once each", filled(16, p -> 15 - p), WORD, fours);
        dueWidths("25 times each", filled(MOST_SIGNS, p -> p % 16), WORD, fours);
        dueWidths("25 times each, in steps", filled(MOST_SIGNS, p -> p % 16), STEP, fours);
    }

    private static void promise12TheWidestWordsOfAFullText() {
        int[] numbers = {1, 1, 2, 3, 5, 8, 13, 21, 34, 55, 89, 144, 24};
        Subject x = timesOf(numbers);
        Model model = new Model();
        for (int s = 0; s < numbers.length; s++) {
            for (int i = 0; i < numbers[s]; i++) {
                model.sign(s);
            }
        }
        due("length", x.length(), MOST_SIGNS);
        for (int s = 0; s < 16; s++) {
            due("width of " + s, x.width(WORD, s), model.width(WORD, s));
            due("step width of " + s, x.width(STEP, s), model.width(STEP, s));
        }
        due("bits(0)", x.bits(WORD), model.bits(WORD));
        due("bits(1)", x.bits(STEP), model.bits(STEP));
        dueWidths("of ten", timesOf(1, 1, 2, 4, 8, 16, 32, 64, 128), WORD, 8, 8, 7, 6, 5, 4, 3, 2, 1);
    }

    private static void promise12AStepIsEnoughIfItIsJustAsMany() {
        dueWidths("all", timesOf(5), STEP, 0);
        dueWidths("a half", timesOf(5, 5), STEP, 1, 1);
        dueWidths("one less than a half", timesOf(4, 5), STEP, 2, 1);
        dueWidths("a quarter", timesOf(2, 6), STEP, 2, 1);
        dueWidths("one less than a quarter", timesOf(1, 4), STEP, 3, 1);
    }

    private static void promise12TheWidestStepIs9() {
        dueWidths("1 of 400", timesOf(1, 399), STEP, 9, 1);
        dueWidths("1 of 256", timesOf(1, 255), STEP, 8, 1);
        dueWidths("1 of 257", timesOf(1, 256), STEP, 9, 1);
        dueWidths("2 of 400", timesOf(2, 398), STEP, 8, 1);
    }

    private static void promise12FollowsTheText() {
        Subject x = of(1, 1);
        due("before", x.width(WORD, 2), 0);
        due("a step before", x.width(STEP, 1), 0);
        x.sign(2);
        due("behind", x.width(WORD, 2), 1);
        due("a step behind", x.width(STEP, 1), 1);
        x.order(2);
        due("the order does not matter", x.width(WORD, 1), 1);
        Subject y = of(0, 1);
        dueWidths("of two", y, WORD, 1, 1);
        int[] more = {0, 0, 1, 1, 2, 2, 2};
        for (int s : more) {
            y.sign(s);
        }
        dueWidths("of three", y, WORD, 2, 2, 1);
    }

    private static void promise12ChangesNothing() {
        dueUnchanged("widths", Boundaries::ordinary, x -> {
            x.width(WORD, 3);
            x.width(STEP, 3);
            x.width(WORD, 1);
            x.width(2, 0);
            x.width(0, 16);
            x.width(1, -1);
        });
    }

    private static void promise13TheKindsAre0And1() {
        Subject x = of(3, 3, 4);
        due("kind -1", x.bits(-1), BAD);
        due("kind 0", x.bits(0), 3);
        due("kind 1", x.bits(1), 4);
        due("kind 2", x.bits(2), BAD);
        dueBadOfWild("bits", x::bits);
    }

    private static void promise13OfNoTextIs0() {
        Subject x = new Subject();
        due("words", x.bits(WORD), 0);
        due("steps", x.bits(STEP), 0);
        dueBadOfWild("bits", x::bits);
        x.sign(1);
        x.sign(2);
        x.wipe();
        due("words behind a wipe", x.bits(WORD), 0);
        due("steps behind a wipe", x.bits(STEP), 0);
    }

    private static void promise13OfOneSignAlone() {
        due("words of one", of(9).bits(WORD), 1);
        due("steps of one", of(9).bits(STEP), 0);
        Subject x = filled(MOST_SIGNS, p -> 9);
        due("words of 400", x.bits(WORD), 400);
        due("steps of 400", x.bits(STEP), 0);
    }

    private static void promise13OfAFullText() {
        Subject x = filled(MOST_SIGNS, p -> p % 16);
        due("words of 25 each", x.bits(WORD), 1600);
        due("steps of 25 each", x.bits(STEP), 1600);
        Subject y = timesOf(1, 399);
        due("words of 1 and 399", y.bits(WORD), 400);
        due("steps of 1 and 399", y.bits(STEP), 9 + 399);
    }

    private static void promise13ChangesNothing() {
        dueUnchanged("bits", Boundaries::ordinary, x -> {
            x.bits(WORD);
            x.bits(STEP);
            x.bits(2);
            x.bits(-1);
        });
    }
}
