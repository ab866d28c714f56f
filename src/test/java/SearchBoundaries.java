/** Boundary cases that the promises 21 to 24 name. */
final class SearchBoundaries {
    private final Boundary doc;

    SearchBoundaries(Boundary doc) {
        this.doc = doc;
    }

    void all() {
        promise21Runner();
        promise21FirstThatHolds();
        promise21LowerOne();
        promise21NobodyWent();
        promise22Runner();
        promise22NotPossible();
        promise22Steps();
        promise22AroundTheOthers();
        promise22ShadowsAsTheyAreNow();
        promise22NoWay();
        promise23FewerThanTwo();
        promise23Farthest();
        promise23OfSeveralTheLowest();
        promise24TurnsAndWhat();
        promise24None();
        promise24FirstTurn();
        promise24NothingElseIsDone();
        promise24BeyondTheLastTurn();
    }

    private void promise21Runner() {
        doc.says("Promise 21", "`runner`: a runner", "UNKNOWN.");
        ShadowTag tag = new ShadowTag();
        for (int runners = 0; runners <= 6; runners++) {
            doc.due(runners + " runners", tag.reason(runners), ShadowTag.UNKNOWN);
            tag.come(runners * 2, 1);
        }
        for (int runner : Play.beside(0, 5)) {
            doc.due("reason(" + runner + ")", tag.reason(runner), ShadowTag.UNKNOWN);
        }
    }

    private void promise21FirstThatHolds() {
        doc.says("Promise 21", "Returns the first that holds: 1 he is the catcher, 2 he has no shadow, 3 his respite is not 0, "
            + "4 the catcher does not stand in his shadow, 5 a lower one is tagged", "0 if he would be tagged");
        ShadowTag tag = Play.facing(3);
        doc.due("he would be tagged", tag.reason(1), 0);
        doc.due("the catcher", tag.reason(0), 1);
        tag.pass(1);
        doc.due("the catcher now", tag.reason(1), 1);
        doc.due("his respite is 3, the catcher stands in it", tag.reason(0), 3);
        tag.light(2, false);
        doc.due("3 before 4", tag.reason(0), 3);
        tag.light(0, false);
        tag.light(1, false);
        doc.due("2 before 3", tag.reason(0), 2);
        doc.due("1 before 2", tag.reason(1), 1);
        tag.light(2, true);
        tag.light(0, true);
        tag.pass(2);
        doc.due("his respite is 1", tag.runner(0, 3), 1);
        doc.due("his respite is 1", tag.reason(0), 3);
        tag.pass(1);
        doc.due("his respite is 0", tag.reason(0), 0);
        tag.light(2, false);
        doc.due("the catcher does not stand in it", tag.reason(0), 4);
        ShadowTag alone = Play.unlit(55, 1);
        doc.due("one alone", alone.reason(0), 1);
    }

    private void promise21LowerOne() {
        doc.says("Promise 21", "4 the catcher does not stand in his shadow, 5 a lower one is tagged", "0 if he would be tagged");
        ShadowTag tag = Play.with(55, 1, 45, 1, 56, 1, 65, 1, 99, 1);
        int[] due = {1, 0, 5, 5, 4};
        for (int runner = 0; runner < due.length; runner++) {
            doc.due("reason(" + runner + ")", tag.reason(runner), due[runner]);
        }
        tag.light(0, false);
        int[] dueThen = {1, 4, 0, 5, 4};
        for (int runner = 0; runner < dueThen.length; runner++) {
            doc.due("without the lamp 0, reason(" + runner + ")", tag.reason(runner), dueThen[runner]);
        }
        ShadowTag respite = Play.with(55, 2, 45, 1, 46, 1);
        respite.pass(1);
        doc.due("the lower one has a respite", respite.reason(0), 3);
        doc.due("so the higher one would be tagged", respite.reason(2), 0);
    }

    private void promise21NobodyWent() {
        doc.says("Promise 21", "Tells why a runner would not be tagged, if nobody went in this turn.");
        ShadowTag leaves = Play.lit(3, 1, 56, 1, 55, 1);
        leaves.head(0, 1);
        doc.due("if nobody went", leaves.reason(1), 0);
        doc.due("but he goes", leaves.pass(1), 0);
        doc.due("if nobody went", leaves.reason(1), 4);
        ShadowTag comes = Play.lit(3, 1, 57, 1, 55, 1);
        comes.head(0, 3);
        doc.due("if nobody went", comes.reason(1), 4);
        doc.due("but he goes", comes.pass(1), 1);
    }

    private void promise22Runner() {
        doc.says("Promise 22", "`runner`: a runner", "UNKNOWN");
        ShadowTag tag = new ShadowTag();
        for (int runners = 0; runners <= 6; runners++) {
            doc.due(runners + " runners", tag.stepsTo(runners), ShadowTag.UNKNOWN);
            tag.come(runners * 11, 1);
        }
        for (int runner : Play.beside(0, 5)) {
            doc.due("stepsTo(" + runner + ")", tag.stepsTo(runner), ShadowTag.UNKNOWN);
        }
    }

    private void promise22NotPossible() {
        doc.says("Promise 22", "NOT_POSSIBLE if he is the catcher, has a respite, or no shadow");
        ShadowTag tag = Play.facing(2);
        doc.due("the catcher", tag.stepsTo(0), ShadowTag.NOT_POSSIBLE);
        doc.due("another one", tag.stepsTo(1), 0);
        tag.pass(1);
        doc.due("the catcher now", tag.stepsTo(1), ShadowTag.NOT_POSSIBLE);
        doc.due("a respite of 2", tag.stepsTo(0), ShadowTag.NOT_POSSIBLE);
        tag.pass(1);
        doc.due("a respite of 1", tag.stepsTo(0), ShadowTag.NOT_POSSIBLE);
        tag.pass(1);
        doc.due("none", tag.stepsTo(0), 0);
        tag.light(0, false);
        tag.light(1, false);
        doc.due("one shadow", tag.stepsTo(0), 0);
        tag.light(2, false);
        doc.due("no shadow", tag.stepsTo(0), ShadowTag.NOT_POSSIBLE);
        ShadowTag shutIn = Play.lit(0, 1, 0, 1, 1, 1, 10, 1, 95, 1);
        doc.due("no shadow, and no way", shutIn.stepsTo(3), ShadowTag.NOT_POSSIBLE);
        doc.due("one alone", Play.with(55, 1).stepsTo(0), ShadowTag.NOT_POSSIBLE);
    }

    private void promise22Steps() {
        doc.says("Promise 22", "comes to a cell in the shadow of a runner", "Returns how many, 0 if it stands in one");
        for (int catcher = 0; catcher < 100; catcher++) {
            if (catcher == 44) {
                continue;
            }
            int row = catcher / 10;
            int column = catcher % 10;
            ShadowTag tag = Play.lit(0, 4, catcher, 1, 44, 5);
            // The shadow has the cells from 54 down to 94, or to the catcher; 44 stands between only above it.
            int steps = Math.abs(column - 4) + Math.max(0, 5 - row) + (column == 4 && row < 4 ? 2 : 0);
            doc.due("from " + catcher, tag.stepsTo(1), steps);
        }
        ShadowTag farthest = Play.lit(1, 1, 99, 1, 1, 1);
        doc.due("from one corner to another", farthest.stepsTo(1), 18);
    }

    private void promise22AroundTheOthers() {
        doc.says("Promise 22", "the catcher, going alone around the others");
        // The only cell of the shadow of 30 is 20.
        ShadowTag tag = Play.lit(2, 1, 0, 1, 30, 1);
        doc.due("straight", tag.stepsTo(1), 2);
        tag.come(10, 1);
        doc.due("around one", tag.stepsTo(1), 4);
        tag.come(11, 1);
        doc.due("around two", tag.stepsTo(1), 6);
        tag.come(2, 1);
        doc.due("shut in with one cell", tag.stepsTo(1), ShadowTag.NONE);
        ShadowTag first = Play.lit(0, 1, 10, 1, 0, 1, 30, 1);
        doc.due("the runner 1 is the catcher", first.pass(1), 1);
        first.setLamp(0, 0, 2);
        doc.due("around the runner 0, too", first.stepsTo(2), 4);
        ShadowTag himself = Play.lit(3, 1, 50, 1, 52, 1);
        doc.due("around the runner himself", himself.stepsTo(1), 5);
        himself.head(1, 0);
        doc.due("as if he stayed", himself.stepsTo(1), 5);
    }

    private void promise22ShadowsAsTheyAreNow() {
        doc.says("Promise 22", "as shadows are now (all of them, also where the catcher now ends one)");
        ShadowTag ended = Play.lit(3, 4, 55, 1, 50, 5);
        doc.due("it ends at the catcher", ended.shadow(1, 0, 2), 0);
        doc.due("there he stands in it", ended.stepsTo(1), 0);
        doc.due("just before the catcher", Play.lit(3, 1, 55, 1, 50, 4).stepsTo(1), 1);
        ShadowTag all = Play.with(0, 1, 44, 1);
        doc.due("of the shadows the nearest", all.stepsTo(1), 7);
        all.light(1, false);
        doc.due("without one of two", all.stepsTo(1), 7);
        all.light(2, false);
        doc.due("the one behind him", all.stepsTo(1), 9);
        ShadowTag cut = Play.lit(3, 4, 9, 1, 50, 5, 53, 1);
        doc.due("another one ends it", cut.stepsTo(1), 12);
    }

    private void promise22NoWay() {
        doc.says("Promise 22", "NONE if there is no way.");
        ShadowTag shutIn = Play.lit(2, 1, 0, 1, 55, 1, 1, 1);
        doc.due("by 10", shutIn.stepsTo(1), 4 + 5);
        shutIn.come(10, 1);
        doc.due("shut in", shutIn.stepsTo(1), ShadowTag.NONE);
        ShadowTag taken = Play.lit(2, 2, 99, 1, 30, 1);
        doc.due("to 20", taken.stepsTo(1), 16);
        taken.come(10, 1);
        doc.due("a runner on the second cell", taken.stepsTo(1), 16);
        taken.come(20, 1);
        doc.due("a runner on the first one", taken.stepsTo(1), ShadowTag.NONE);
    }

    private void promise23FewerThanTwo() {
        doc.says("Promise 23", "NONE with fewer than two runners.");
        ShadowTag tag = new ShadowTag();
        doc.due("none", tag.safest(), ShadowTag.NONE);
        tag.come(55, 1);
        doc.due("one", tag.safest(), ShadowTag.NONE);
        tag.come(45, 1);
        doc.due("two", tag.safest(), 1);
        tag.undo();
        doc.due("one again", tag.safest(), ShadowTag.NONE);
    }

    private void promise23Farthest() {
        doc.says("Promise 23", "Finds the runner to whom the catcher has the most steps, as stepsTo() tells it, "
            + "those to whom there is no way, or whom it does not tell steps for, but for the catcher, being farthest of all",
            "Returns the runner");
        ShadowTag near = Play.lit(0, 1, 55, 1, 45, 1, 35, 1);
        doc.due("0 steps and 10", near.safest(), 2);
        doc.due("18 steps, and no shadow", Play.lit(1, 1, 99, 1, 1, 1, 50, 1).safest(), 2);
        doc.due("no shadow, and 18 steps", Play.lit(1, 1, 99, 1, 50, 1, 1, 1).safest(), 1);
        doc.due("18 steps, and no way", Play.lit(1, 1, 99, 1, 1, 1, 52, 1, 51, 1).safest(), 2);
        ShadowTag tagged = Play.facing(3);
        tagged.come(99, 1);
        doc.due("steps", tagged.safest(), 2);
        tagged.pass(1);
        doc.due("a respite", tagged.safest(), 0);
        doc.due("the catcher is not", Play.lit(3, 1, 55, 1, 54, 1).safest(), 1);
        ShadowTag two = Play.facing(0);
        two.pass(1);
        doc.due("0 steps, but the only one", two.safest(), 0);
    }

    private void promise23OfSeveralTheLowest() {
        doc.says("Promise 23", "of several the lowest");
        doc.due("nobody has a shadow", Play.unlit(55, 1, 5, 1, 6, 1, 7, 1).safest(), 1);
        doc.due("as many steps", Play.lit(0, 1, 44, 1, 22, 1, 26, 1, 62, 1).safest(), 3);
        doc.due("as many steps", Play.lit(0, 1, 44, 1, 22, 1, 26, 1).safest(), 1);
        doc.due("0 steps each", Play.with(55, 1, 45, 1, 56, 1).safest(), 1);
        ShadowTag mixed = Play.lit(1, 1, 99, 1, 8, 1, 52, 1, 51, 1, 50, 1);
        doc.due("no way", mixed.stepsTo(2), ShadowTag.NONE);
        doc.due("no shadow", mixed.stepsTo(4), ShadowTag.NOT_POSSIBLE);
        doc.due("of both the lowest", mixed.safest(), 2);
        ShadowTag tagged = Play.facing(9);
        tagged.come(99, 1);
        tagged.pass(1);
        tagged.light(0, false);
        tagged.light(1, false);
        tagged.light(2, false);
        doc.due("a respite, and no shadow", tagged.safest(), 0);
    }

    private void promise24TurnsAndWhat() {
        doc.says("Promise 24", "`turns`: 1 to 99", "`what`: 0 for tags in them", "BAD_VALUE");
        ShadowTag tag = Play.facing(0);
        for (int turns : Play.beside(1, 99)) {
            for (int what = 0; what < 3; what++) {
                doc.due("ifTurns(" + turns + ", " + what + ")", tag.ifTurns(turns, what), ShadowTag.BAD_VALUE);
            }
        }
        for (int what : Play.beside(0, 2)) {
            doc.due("ifTurns(1, " + what + ")", tag.ifTurns(1, what), ShadowTag.BAD_VALUE);
            doc.due("ifTurns(99, " + what + ")", tag.ifTurns(99, what), ShadowTag.BAD_VALUE);
        }
        doc.due("ifTurns(1, 0)", tag.ifTurns(1, 0), 1);
        doc.due("ifTurns(99, 0)", tag.ifTurns(99, 0), 99);
        doc.due("ifTurns(1, 1)", tag.ifTurns(1, 1), 1);
        doc.due("ifTurns(98, 1)", tag.ifTurns(98, 1), 0);
        doc.due("ifTurns(99, 1)", tag.ifTurns(99, 1), 1);
    }

    private void promise24None() {
        doc.says("Promise 24", "NONE for 1 without runners, for 2 without a tag.");
        ShadowTag tag = new ShadowTag();
        for (int turns : new int[] {1, 99}) {
            doc.due("without runners", tag.ifTurns(turns, 0), 0);
            doc.due("without runners", tag.ifTurns(turns, 1), ShadowTag.NONE);
            doc.due("without runners", tag.ifTurns(turns, 2), ShadowTag.NONE);
        }
        doc.due("BAD_VALUE before NONE", tag.ifTurns(0, 1), ShadowTag.BAD_VALUE);
        doc.due("BAD_VALUE before NONE", tag.ifTurns(100, 2), ShadowTag.BAD_VALUE);
        tag.come(55, 5);
        doc.due("one alone", tag.ifTurns(99, 0), 0);
        doc.due("one alone", tag.ifTurns(99, 1), 0);
        doc.due("one alone", tag.ifTurns(99, 2), ShadowTag.NONE);
    }

    private void promise24FirstTurn() {
        doc.says("Promise 24", "1 for the catcher then, 2 for the first turn of them in which there is a tag, from 1",
            "Returns the number");
        ShadowTag first = Play.facing(0);
        doc.due("the first one", first.ifTurns(1, 2), 1);
        doc.due("the first one", first.ifTurns(99, 2), 1);
        first.pass(7);
        doc.due("from 1, whatever the number of the turn", first.ifTurns(99, 2), 1);
        // The catcher stands above the runner. The lamp swings each nine turns, the platform turns each
        // eight, and only behind the turn 152 has it turned three times more than the lamp, seen from 54.
        ShadowTag tag = Play.lit(1, 1, 45, 1, 55, 1);
        tag.pass(54);
        tag.setLamp(0, 2, 9);
        tag.set(1, 8);
        doc.due("none in 98", tag.ifTurns(98, 0), 0);
        doc.due("none in 98", tag.ifTurns(98, 1), 0);
        doc.due("none in 98", tag.ifTurns(98, 2), ShadowTag.NONE);
        doc.due("the last of 99", tag.ifTurns(99, 0), 1);
        doc.due("the last of 99", tag.ifTurns(99, 1), 1);
        doc.due("the last of 99", tag.ifTurns(99, 2), 99);
        doc.due("as pass() does", tag.pass(98), 0);
        doc.due("the first one now", tag.ifTurns(1, 2), 1);
        doc.due("as pass() does", tag.pass(1), 1);
    }

    private void promise24NothingElseIsDone() {
        doc.says("Promise 24", "Tells what turns would bring, if nothing else is done.");
        ShadowTag tag = Play.facing(1);
        tag.head(1, 2);
        tag.setLamp(0, 2, 1);
        tag.set(1, 1);
        String before = Play.told(tag);
        for (int what = 0; what < 3; what++) {
            tag.ifTurns(99, what);
        }
        doc.holds("nothing changes", Play.told(tag).equals(before));
        int tags = tag.ifTurns(30, 0);
        int catcher = tag.ifTurns(30, 1);
        doc.due("as pass() does", tag.pass(30), tags);
        doc.due("as pass() does", tag.count(2), catcher);
    }

    private void promise24BeyondTheLastTurn() {
        doc.says("Promise 24", "`turns`: 1 to 99", "Returns the number");
        ShadowTag tag = Play.nearTheLastTurn(Play.facing(0));
        tag.pass(9);
        doc.due("pass(1)", tag.pass(1), ShadowTag.FULL);
        // No FULL is told for it: it looks on.
        doc.due("ifTurns(1, 0)", tag.ifTurns(1, 0), 1);
        doc.due("ifTurns(99, 0)", tag.ifTurns(99, 0), 99);
        doc.due("ifTurns(99, 2)", tag.ifTurns(99, 2), 1);
        doc.due("count(0)", tag.count(0), 99999);
    }
}
