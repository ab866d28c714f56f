/** Boundary cases that 'TEXTS' and the promises 8 to 11 name. */
final class TextBoundaries {
    private static final String DIGITS = "0123456789";
    /** Beginnings of games, the signs that may come next and end a game there, and those that may but end none. */
    private static final String[][] PLACES = {
        {"", "", "rdl."}, {"r", "", DIGITS}, {"r0", "", "h"}, {"r1", "", "h" + DIGITS}, {"r9", "", "h" + DIGITS},
        {"r10", "", "h"}, {"r99", "", "h"}, {"r5h", "12345", ""}, {"r5h1", "", ";"}, {"r99h5", "", ";"},
        {"d", "", "012345"}, {"d0", "nesw-", ""}, {"d5", "nesw-", ""}, {"d0n", "", ";"}, {"d0-", "", ";"},
        {"l", "", "012"}, {"l0", "+-", ""}, {"l2", "+-", ""}, {"l0+", "", ";"}, {"l2-", "", ";"},
        {".", "123456789", ""}, {".1", DIGITS, ";"}, {".9", DIGITS, ";"}, {".10", "", ";"}, {".99", "", ";"},
        {"r5h1;", "", "rdl."}, {"d0n;", "", "rdl."}, {"l0+;", "", "rdl."}, {".1;", "", "rdl."},
    };
    private static final String TWENTY = ".1;.1;.1;.1;.1;.1;.1;.1;.1;.1;.1;.1;.1;.1;.1;.1;.1;.1;.1;.1";

    private final Boundary doc;

    TextBoundaries(Boundary doc) {
        this.doc = doc;
    }

    void all() {
        textHasAtMost60Characters();
        gameHasOneOrMoreThings();
        gameHasNumbersInRange();
        numbersHaveNoZeroInFront();
        digitsThatMakeTooMuch();
        faultIsTheFirst();
        faultOfATextThatEndsTooEarly();
        faultOfAFullText();
        promise8AnyCharacter();
        promise8Full();
        promise9Length();
        promise9NothingOfTheOldTextIsLeft();
        promise10HowManyThings();
        promise10AllOrNothing();
        promise10None();
        promise10Fault();
        promise10Stops();
        promise11What();
        promise11NothingStoppedYet();
        promise11Latest();
    }

    private void textHasAtMost60Characters() {
        doc.says("TEXTS", "There is a text of at most 60 characters, empty at first.");
        ShadowTag tag = new ShadowTag();
        doc.due("empty at first", tag.count(13), 0);
        for (int length = 1; length <= 60; length++) {
            doc.due("type", tag.type(TWENTY.charAt((length - 1) % 3)), length);
            doc.due("count(13)", tag.count(13), length);
        }
        for (int time = 0; time < 3; time++) {
            doc.due("one more", tag.type('1'), ShadowTag.FULL);
            doc.due("count(13)", tag.count(13), 60);
        }
    }

    private void gameHasOneOrMoreThings() {
        doc.says("TEXTS", "A game is a text: one or more of these with \";\" between two");
        ShadowTag tag = new ShadowTag();
        doc.due("none", Check.perform(tag, ""), -100);
        doc.due("one", Check.perform(tag, ".1"), 1);
        doc.due("two", Check.perform(tag, ".1;.1"), 2);
        doc.due("nothing between two", Check.perform(tag, "l0+l0+"), -103);
        doc.due("two signs between two", Check.perform(tag, ".1;;.1"), -103);
        doc.due("one ahead of the first", Check.perform(tag, ";.1"), -100);
        doc.due("one behind the last", Check.perform(tag, ".1;"), -103);
        doc.due("one alone", Check.perform(tag, ";"), -100);
        doc.due("another sign between two", Check.perform(tag, ".1,.1"), -102);
        doc.due("a space", Check.perform(tag, ".1; .1"), -103);
    }

    private void gameHasNumbersInRange() {
        doc.says("TEXTS", "\"r\", a cell (0 to 99), \"h\" and a height (1 to 5: a runner comes)",
            "\"d\", a runner (0 to 5), and a direction, \"n\", \"e\", \"s\" or \"w\" (0 to 3), or \"-\" (none)",
            "\"l\", a lamp (0 to 2), and \"+\" or \"-\" (it is turned on, or off)", "\".\" and turns (1 to 99: they pass)");
        ShadowTag tag = new ShadowTag();
        doc.due("the least", Check.perform(tag, "r0h1"), 1);
        doc.due("the greatest", Check.perform(tag, "r99h5"), 1);
        doc.due("its cell", tag.runner(0, 0), 0);
        doc.due("its height", tag.runner(0, 1), 1);
        doc.due("its cell", tag.runner(1, 0), 99);
        doc.due("its height", tag.runner(1, 1), 5);
        doc.due("four more", Check.perform(tag, "r9h2;r10h3;r49h4;r90h5"), 4);
        doc.due("the directions", Check.perform(tag, "d0n;d1e;d2s;d3w;d4n;d5n;d4-"), 7);
        for (int runner = 0; runner < 6; runner++) {
            doc.due("direction of " + runner, tag.runner(runner, 2), new int[] {0, 1, 2, 3, 4, 0}[runner]);
        }
        for (int lamp = 0; lamp < 3; lamp++) {
            doc.due("off", Check.perform(tag, "l" + lamp + "-"), 1);
            doc.due("off", tag.lamp(lamp, 3), 0);
        }
        doc.due("on", Check.perform(tag, "l0+;l1+;l2+"), 3);
        doc.due("on", tag.count(3), 3);
        doc.due("the fewest turns", Check.perform(tag, ".1"), 1);
        doc.due("count(0)", tag.count(0), 1);
        doc.due("the most turns", Check.perform(tag, ".99"), 1);
        doc.due("count(0)", tag.count(0), 100);
        String[][] beside = {{"r0h0", "3"}, {"r0h6", "3"}, {"r100h1", "3"}, {"d6n", "1"}, {"l3+", "1"}, {".0", "1"}, {".100", "3"}};
        for (String[] row : beside) {
            doc.due(row[0], Check.perform(tag, row[0]), -100 - Integer.parseInt(row[1]));
        }
    }

    private void numbersHaveNoZeroInFront() {
        doc.says("TEXTS", "Numbers have no zero in front, unless they are the single digit 0");
        ShadowTag tag = new ShadowTag();
        String[][] rows = {{"r00h1", "2"}, {"r05h1", "2"}, {"r5h01", "3"}, {"d00n", "2"}, {"d01n", "2"}, {"l00+", "2"},
            {"l01+", "2"}, {".01", "1"}, {".00", "1"}, {".1;.09", "4"}, {"r-1h1", "1"}, {"r+1h1", "1"}, {".+1", "1"}};
        for (String[] row : rows) {
            doc.due(row[0], Check.perform(tag, row[0]), -100 - Integer.parseInt(row[1]));
        }
        doc.due("r0h1", Check.perform(tag, "r0h1"), 1);
        doc.due("d0-", Check.perform(tag, "d0-"), 1);
        doc.due("l0+", Check.perform(tag, "l0+"), 1);
        doc.due("zeros behind", Check.perform(tag, "r10h1;r90h1;.10;.90"), 4);
    }

    private void digitsThatMakeTooMuch() {
        doc.says("TEXTS", "a digit by which a number would be greater than told is not allowed");
        ShadowTag tag = new ShadowTag();
        String[][] rows = {{"r100", "3"}, {"r990h1", "3"}, {"r999h1", "3"}, {"r5h10", "4"}, {"r5h55", "4"}, {"d10n", "2"},
            {"d50n", "2"}, {"l10+", "2"}, {"l20+", "2"}, {".100", "3"}, {".990", "3"}, {".999", "3"}, {"r6", "2"}, {"d6", "1"},
            {"l3", "1"}, {"r5h6", "3"}, {"r4294967301h1", "3"}, {".4294967297", "3"}};
        for (String[] row : rows) {
            doc.due(row[0], Check.perform(tag, row[0]), -100 - Integer.parseInt(row[1]));
        }
        doc.due("r99h1", Check.perform(tag, "r99h1"), 1);
        doc.due(".99", Check.perform(tag, ".99"), 1);
    }

    private void faultIsTheFirst() {
        doc.says("TEXTS", "The fault of the text is the index, from 0, of the first character that is not allowed at its place");
        for (String[] place : PLACES) {
            for (int sign = 0; sign < 65536; sign += sign < 400 ? 1 : 63) {
                dueBehind(place, (char) sign);
            }
            for (char allowed : (place[1] + place[2]).toCharArray()) {
                for (int higher = 256; higher < 65536; higher += 256) {
                    dueBehind(place, (char) (allowed + higher));
                }
            }
        }
        doc.due("of two the first", Check.perform(new ShadowTag(), "r5x1;?"), -102);
    }

    /** Performs a beginning of a game with a sign behind it; what is done by a game is tested elsewhere. */
    private void dueBehind(String[] place, char sign) {
        ShadowTag tag = new ShadowTag();
        int answer = Check.perform(tag, place[0] + sign);
        String what = "'" + place[0] + "' and the sign " + (int) sign;
        if (place[1].indexOf(sign) >= 0) {
            doc.holds(what + " is a game, answered " + answer, answer > 0 || answer == ShadowTag.NOT_POSSIBLE);
        } else {
            int fault = place[0].length() + (place[2].indexOf(sign) >= 0 ? 1 : 0);
            doc.due(what, answer, -100 - fault);
        }
    }

    private void faultOfATextThatEndsTooEarly() {
        doc.says("TEXTS", "or the length of the text if it ends too early (the empty text does)");
        doc.due("the empty text", new ShadowTag().perform(), -100);
        String game = "r99h5;d0n;d0-;l2+;.10;r0h1;.1";
        for (int length = 1; length < game.length(); length++) {
            String text = game.substring(0, length);
            // What is a game though it goes on: whole things, and a number that one more digit may follow.
            boolean whole = ";".indexOf(game.charAt(length)) >= 0 || text.endsWith(".1");
            ShadowTag tag = new ShadowTag();
            int answer = Check.perform(tag, text);
            if (whole) {
                doc.holds(text + " is a game, answered " + answer, answer > 0);
            } else {
                doc.due(text, answer, -100 - length);
            }
        }
    }

    private void faultOfAFullText() {
        doc.says("TEXTS", "the first character that is not allowed at its place, or the length of the text if it ends too early");
        String full = TWENTY + "0";
        ShadowTag tag = new ShadowTag();
        doc.due("a game of 60", Check.perform(tag, full), 20);
        doc.due("count(0)", tag.count(0), 29);
        doc.due("too early at 60", Check.perform(tag, TWENTY + ";"), -160);
        doc.due("wrong at 59", Check.perform(tag, TWENTY + "x"), -159);
        doc.due("wrong at 58", Check.perform(tag, full.substring(0, 58) + "x0"), -158);
        doc.due("wrong at 0", Check.perform(tag, "x" + full.substring(1)), -100);
        doc.due("59, too early", Check.perform(tag, ".10;" + TWENTY.substring(3, 57) + "."), -159);
        doc.due("count(0)", tag.count(0), 29);
    }

    private void promise8AnyCharacter() {
        doc.says("Promise 8", "Types a character behind the text.", "`character`: any character",
            "Returns the length of the text then");
        for (int sign = 0; sign < 65536; sign += sign < 300 || sign > 65500 ? 1 : 251) {
            ShadowTag tag = new ShadowTag();
            doc.due("type " + sign, tag.type((char) sign), 1);
            doc.due("type it again", tag.type((char) sign), 2);
            doc.due("count(13)", tag.count(13), 2);
        }
        ShadowTag tag = new ShadowTag();
        for (char sign : ".12".toCharArray()) {
            tag.type(sign);
        }
        doc.due("each stands behind those before", tag.perform(), 1);
        doc.due("count(0)", tag.count(0), 12);
    }

    private void promise8Full() {
        doc.says("Promise 8", "FULL if it has 60 characters.");
        ShadowTag tag = new ShadowTag();
        Check.write(tag, TWENTY);
        doc.due("the last one", tag.type('2'), 60);
        for (char sign : new char[] {'1', 'x', ';', 0, 65535}) {
            doc.due("type", tag.type(sign), ShadowTag.FULL);
        }
        doc.due("nothing of it stands there", tag.perform(), 20);
        doc.due("count(0)", tag.count(0), 31);
        doc.due("clearText()", tag.clearText(), 60);
        doc.due("room again", tag.type('.'), 1);
    }

    private void promise9Length() {
        doc.says("Promise 9", "Empties the text.", "Returns the length that it had.");
        for (int length = 0; length <= 60; length++) {
            ShadowTag tag = new ShadowTag();
            for (int typed = 0; typed < length; typed++) {
                tag.type('x');
            }
            doc.due("clearText()", tag.clearText(), length);
            doc.due("count(13)", tag.count(13), 0);
            doc.due("clearText()", tag.clearText(), 0);
            doc.due("perform()", tag.perform(), -100);
            doc.due("no act", tag.count(12), 0);
        }
    }

    private void promise9NothingOfTheOldTextIsLeft() {
        doc.says("Promise 9", "Empties the text.");
        ShadowTag tag = new ShadowTag();
        Check.write(tag, "r55h1");
        doc.due("clearText()", tag.clearText(), 5);
        tag.type('r');
        tag.type('5');
        doc.due("what stood behind it has gone", tag.perform(), -102);
        doc.due("count(1)", tag.count(1), 0);
    }

    private void promise10HowManyThings() {
        doc.says("Promise 10", "Does all that the game of the text, which stays, tells, one after the other",
            "This is one act.", "Returns how many things the game has");
        StringBuilder game = new StringBuilder();
        for (int things = 1; things <= 20; things++) {
            game.append(things == 1 ? ".1" : ";.1");
            ShadowTag tag = new ShadowTag();
            doc.due(things + " things", Check.perform(tag, game.toString()), things);
            doc.due("all of them", tag.count(0), things);
            doc.due("one act", tag.count(12), 1);
            doc.due("the text stays", tag.count(13), game.length());
            doc.due("and can be performed again", tag.perform(), things);
            doc.due("all of them", tag.count(0), 2 * things);
            doc.due("undo()", tag.undo(), 1);
            doc.due("undo()", tag.undo(), 0);
            doc.due("all of them", tag.count(0), 0);
        }
    }

    private void promise10AllOrNothing() {
        doc.says("Promise 10", "all of it, or nothing", "NOT_POSSIBLE if any is stopped.");
        String[] things = {"r55h2", "r45h1", "l1-", "d1n", ".3", "r99h1"};
        for (int stop = 0; stop <= things.length; stop++) {
            StringBuilder game = new StringBuilder();
            for (int place = 0; place < stop; place++) {
                game.append(things[place]).append(';');
            }
            ShadowTag tag = Play.with(11, 1);
            tag.keep();
            String before = Play.brief(tag);
            doc.due("stopped at " + stop, Check.perform(tag, game + "r11h1;.1"), ShadowTag.NOT_POSSIBLE);
            doc.holds("nothing is done", Play.brief(tag).equals(before));
            doc.due("stopped(0)", tag.stopped(0), stop);
            doc.due("restore()", tag.restore(), 1);
            doc.due("undo()", tag.undo(), 1);
            doc.due("undo()", tag.undo(), 0);
            doc.due("count(1)", tag.count(1), 0);
        }
    }

    private void promise10None() {
        doc.says("Promise 10", "What would return NONE does not stop it; what would return an error stops it.");
        ShadowTag tag = Play.with(55, 1);
        doc.due("NONE ahead", Check.perform(tag, "l0+;d0-;.2"), 3);
        doc.due("count(0)", tag.count(0), 2);
        doc.due("stopped(0)", tag.stopped(0), ShadowTag.NONE);
        doc.due("count(12)", tag.count(12), 2);
        doc.due("NONE alone", Check.perform(tag, "l0+"), 1);
        doc.due("it is an act", tag.count(12), 3);
        doc.due("so twice", Check.perform(tag, "l0-;l0-;d0e;d0e"), 4);
        doc.due("lamp(0, 3)", tag.lamp(0, 3), 0);
        doc.due("runner(0, 2)", tag.runner(0, 2), 1);
        doc.due("an error behind NONE", Check.perform(tag, "l0-;d0e;d1e"), ShadowTag.NOT_POSSIBLE);
        doc.due("stopped(0)", tag.stopped(0), 2);
        doc.due("stopped(1)", tag.stopped(1), ShadowTag.UNKNOWN);
    }

    private void promise10Fault() {
        doc.says("Promise 10", "-100 minus the fault of the text if it has one (which is an error)");
        ShadowTag tag = Play.with(55, 1);
        String before = Play.brief(tag);
        doc.due("nothing of it is done", Check.perform(tag, "r45h1;.5;x"), -109);
        doc.holds("nothing changes", Play.brief(tag).equals(before));
        doc.due("before any stop", Check.perform(tag, "r55h1;"), -106);
        doc.due("no stop", tag.stopped(0), ShadowTag.NONE);
        doc.due("no stop", tag.stopped(1), ShadowTag.NONE);
    }

    private void promise10Stops() {
        doc.says("Promise 10", "as come(), head(), light() and pass()", "what would return an error stops it",
            "NOT_POSSIBLE if any is stopped.");
        Object[][] rows = {
            {"r0h1;r0h2", 1, ShadowTag.NOT_POSSIBLE}, {"r0h1;d1n", 1, ShadowTag.UNKNOWN}, {"d0-", 0, ShadowTag.UNKNOWN},
            {"r0h1;r1h1;r2h1;r3h1;r4h1;r5h1;r6h1", 6, ShadowTag.FULL}, {"d5w", 0, ShadowTag.UNKNOWN},
            {"r0h1;r1h1;r2h1;r3h1;r4h1;r5h1;r5h1", 6, ShadowTag.NOT_POSSIBLE},
            {"r9h1;d0w;l0-;l1-;l2-;.9;r0h1", 6, ShadowTag.NOT_POSSIBLE},
        };
        for (Object[] row : rows) {
            ShadowTag tag = new ShadowTag();
            doc.due((String) row[0], Check.perform(tag, (String) row[0]), ShadowTag.NOT_POSSIBLE);
            doc.due("stopped(0)", tag.stopped(0), (Integer) row[1]);
            doc.due("stopped(1)", tag.stopped(1), (Integer) row[2]);
            doc.due("count(1)", tag.count(1), 0);
            doc.due("count(12)", tag.count(12), 0);
        }
        ShadowTag tag = new ShadowTag();
        doc.due("where he was is free", Check.perform(tag, "r9h1;d0w;l0-;l1-;l2-;.9;r9h1"), 7);
        doc.due("at(9)", tag.at(9), 1);
    }

    private void promise11What() {
        doc.says("Promise 11", "`what`: 0 for its number in the game, from 0, 1 for the error", "BAD_VALUE");
        ShadowTag tag = new ShadowTag();
        for (int time = 0; time < 2; time++) {
            for (int what : Play.beside(0, 1)) {
                doc.due("stopped(" + what + ")", tag.stopped(what), ShadowTag.BAD_VALUE);
            }
            Check.perform(tag, "l0-;l1-;d0n");
        }
        doc.due("stopped(0)", tag.stopped(0), 2);
        doc.due("stopped(1)", tag.stopped(1), ShadowTag.UNKNOWN);
    }

    private void promise11NothingStoppedYet() {
        doc.says("Promise 11", "NONE if nothing was stopped yet.");
        ShadowTag tag = new ShadowTag();
        int[] answers = {tag.come(5, 1), tag.come(5, 1), tag.head(7, 1), Check.perform(tag, "r5"), Check.perform(tag, ".1;l0+")};
        doc.due("refused outside a game", answers[1], ShadowTag.NOT_POSSIBLE);
        doc.due("stopped(0)", tag.stopped(0), ShadowTag.NONE);
        doc.due("stopped(1)", tag.stopped(1), ShadowTag.NONE);
    }

    private void promise11Latest() {
        doc.says("Promise 11", "Tells of the latest stop of perform().", "Returns the number");
        ShadowTag tag = new ShadowTag();
        Check.perform(tag, TWENTY.substring(0, 57) + "d0n");
        doc.due("the last of twenty", tag.stopped(0), 19);
        doc.due("stopped(1)", tag.stopped(1), ShadowTag.UNKNOWN);
        Check.perform(tag, "r5h1;r5h1");
        doc.due("a later one", tag.stopped(0), 1);
        doc.due("a later one", tag.stopped(1), ShadowTag.NOT_POSSIBLE);
        Check.perform(tag, "r5h1;r6h1");
        Check.perform(tag, "r6h");
        tag.come(5, 1);
        tag.pass(0);
        tag.undo();
        tag.keep();
        tag.restore();
        tag.clearText();
        doc.due("what is no stop of perform() leaves it", tag.stopped(0), 1);
        doc.due("what is no stop of perform() leaves it", tag.stopped(1), ShadowTag.NOT_POSSIBLE);
        Check.perform(tag, "d5n");
        doc.due("the first of a game", tag.stopped(0), 0);
        doc.due("the first of a game", tag.stopped(1), ShadowTag.UNKNOWN);
    }
}
