/** Boundary cases that 'A TURN' names, step by step. */
final class TurnBoundaries {
    private static final String TURN = "A TURN";

    private final Boundary doc;

    TurnBoundaries(Boundary doc) {
        this.doc = doc;
    }

    void all() {
        goByTheirNumbers();
        stayAtTheEdge();
        stayWhereSomebodyStands();
        tagBehindTheSteps();
        tagWithRespite0();
        tagTheLowest();
        respiteOfTheSetting();
        respiteIsOneLess();
        accounts();
        numberOfTheTurn();
        lampsSwing();
        lampsSwingBehindTags();
        platformTurns();
        cellsOfAPlatformThatTurns();
        directionsTurn();
        lampsStay();
    }

    private void dueCells(String what, ShadowTag tag, int... cells) {
        for (int runner = 0; runner < cells.length; runner++) {
            doc.due(what + ", runner " + runner, tag.runner(runner, 0), cells[runner]);
        }
    }

    private static ShadowTag going(ShadowTag tag, int... directions) {
        for (int runner = 0; runner < directions.length; runner++) {
            tag.head(runner, directions[runner]);
        }
        return tag;
    }

    private void goByTheirNumbers() {
        doc.says(TURN, "The runners, by their numbers, each with a direction, go to the next cell that way");
        ShadowTag behind = going(Play.unlit(51, 1, 52, 1), 1, 1);
        behind.pass(1);
        dueCells("the higher one is still there", behind, 51, 53);
        doc.due("stops", behind.count(8), 1);
        ShadowTag ahead = going(Play.unlit(52, 1, 51, 1), 1, 1);
        ahead.pass(1);
        dueCells("the lower one has gone", ahead, 53, 52);
        doc.due("stops", ahead.count(8), 0);
        ShadowTag meeting = going(Play.unlit(51, 1, 53, 1), 1, 3);
        meeting.pass(1);
        dueCells("the lower one comes first", meeting, 52, 53);
        doc.due("stops", meeting.count(8), 1);
    }

    private void stayAtTheEdge() {
        doc.says(TURN, "if it is on the platform", "otherwise they stay");
        int[][] edges = {{0, 4, 9}, {9, 49, 99}, {90, 94, 99}, {0, 40, 90}};
        for (int way = 0; way < 4; way++) {
            for (int cell : edges[way]) {
                ShadowTag tag = going(Play.unlit(cell, 1), way);
                tag.pass(3);
                dueCells("way " + way, tag, cell);
                doc.due("steps", tag.count(7), 0);
                doc.due("stops", tag.count(8), 3);
                doc.due("the direction stays", tag.runner(0, 2), way);
            }
        }
    }

    private void stayWhereSomebodyStands() {
        doc.says(TURN, "and nobody stands there; otherwise they stay");
        ShadowTag facing = going(Play.unlit(51, 1, 52, 1), 1, 3);
        facing.pass(1);
        dueCells("face to face", facing, 51, 52);
        doc.due("stops", facing.count(8), 2);
        ShadowTag circle = going(Play.unlit(44, 1, 45, 1, 55, 1, 54, 1), 1, 2, 3, 0);
        circle.pass(2);
        dueCells("in a circle", circle, 44, 45, 55, 54);
        doc.due("stops", circle.count(8), 8);
        doc.due("steps", circle.count(7), 0);
        for (int way = 0; way < 4; way++) {
            int next = 55 + new int[] {-10, 1, 10, -1}[way];
            ShadowTag standing = going(Play.unlit(next, 1, 55, 1), -1, way);
            standing.pass(1);
            dueCells("at one who stands", standing, next, 55);
            doc.due("stops", standing.count(8), 1);
        }
        ShadowTag back = going(Play.unlit(9, 1, 10, 1), -1, 3);
        back.pass(1);
        doc.due("the cell before in the numbers is not the next one", back.count(8), 1);
        dueCells("at the edge", back, 9, 10);
    }

    private void tagBehindTheSteps() {
        doc.says(TURN, "If the catcher stands in the shadow of a runner");
        ShadowTag comes = going(Play.lit(3, 1, 57, 1, 55, 1), 3);
        doc.due("he comes into it", comes.pass(1), 1);
        ShadowTag leaves = going(Play.lit(3, 1, 56, 1, 55, 1), 1);
        doc.due("he leaves it", leaves.pass(1), 0);
        ShadowTag brings = going(Play.lit(3, 1, 56, 1, 54, 1), -1, 1);
        doc.due("the runner brings it", brings.pass(1), 1);
        ShadowTag takes = going(Play.lit(3, 1, 56, 1, 55, 1), -1, 3);
        doc.due("the runner takes it along", takes.pass(1), 0);
        ShadowTag between = going(Play.lit(3, 1, 57, 1, 55, 2, 46, 1), -1, -1, 2);
        doc.due("another one comes between", between.reason(1), 0);
        doc.due("another one comes between", between.pass(1), 1);
        doc.due("he is tagged", between.count(2), 2);
        doc.due("nobody", new ShadowTag().pass(1), 0);
        doc.due("one alone", Play.with(55, 5).pass(99), 0);
    }

    private void tagWithRespite0() {
        doc.says(TURN, "in the shadow of a runner whose respite is 0");
        for (int respite = 0; respite <= 9; respite++) {
            ShadowTag tag = Play.facing(respite);
            for (int turn = 0; turn < 25; turn++) {
                String what = "setting " + respite + ", turn " + turn;
                doc.due(what, tag.pass(1), turn % (respite + 1) == 0 ? 1 : 0);
            }
        }
    }

    private void tagTheLowest() {
        doc.says(TURN, "that runner is tagged, of several the lowest");
        for (int lowest = 1; lowest <= 3; lowest++) {
            ShadowTag tag = Play.with(55, 1, 45, 1, 56, 1, 65, 1);
            for (int lamp = 0; lamp < lowest - 1; lamp++) {
                tag.light(lamp, false);
            }
            doc.due("one tag in a turn", tag.pass(1), 1);
            doc.due("the lowest", tag.count(2), lowest);
            doc.due("tagged", tag.runner(lowest, 4), 1);
            doc.due("tags", tag.count(6), 1);
        }
        ShadowTag tag = Play.with(55, 2, 45, 1, 46, 1);
        doc.due("first", tag.pass(1), 1);
        doc.due("first", tag.count(2), 1);
        doc.due("the lower one has a respite", tag.pass(1), 1);
        doc.due("the lower one has a respite", tag.count(2), 2);
    }

    private void respiteOfTheSetting() {
        doc.says(TURN, "he is the catcher from now on, and the one who was has the respite that the setting 0 tells "
            + "(0 to 9; 3 at first) and 1 more");
        ShadowTag first = Play.with(55, 2, 45, 1);
        first.pass(1);
        doc.due("3 at first", first.runner(0, 3), 3);
        for (int respite = 0; respite <= 9; respite++) {
            ShadowTag tag = Play.facing(respite);
            doc.due("pass(1)", tag.pass(1), 1);
            // One of it has gone with the turn itself.
            doc.due("setting " + respite, tag.runner(0, 3), respite);
            doc.due("the new catcher has none", tag.runner(1, 3), 0);
            doc.due("the new catcher", tag.count(2), 1);
        }
    }

    private void respiteIsOneLess() {
        doc.says(TURN, "Each respite above 0 is 1 less.");
        ShadowTag tag = Play.facing(9);
        tag.pass(1);
        tag.light(2, false);
        for (int left = 9; left > 0; left--) {
            doc.due("respite", tag.runner(0, 3), left);
            tag.pass(1);
        }
        for (int turn = 0; turn < 5; turn++) {
            doc.due("0 stays", tag.runner(0, 3), 0);
            doc.due("0 stays", tag.runner(1, 3), 0);
            tag.pass(1);
        }
        ShadowTag both = Play.with(55, 2, 45, 1, 46, 1);
        both.pass(2);
        doc.due("each", both.runner(0, 3), 2);
        doc.due("each", both.runner(1, 3), 3);
        doc.due("each", both.runner(2, 3), 0);
    }

    private void accounts() {
        doc.says(TURN, "Each runner who is not the catcher has a turn more to his account.");
        ShadowTag alone = Play.with(55, 1);
        alone.pass(99);
        doc.due("the catcher alone", alone.runner(0, 6), 0);
        ShadowTag tag = Play.with(55, 1, 45, 1, 99, 1);
        tag.pass(1);
        doc.due("who was the catcher", tag.runner(0, 6), 1);
        doc.due("who is the catcher now", tag.runner(1, 6), 0);
        doc.due("another one", tag.runner(2, 6), 1);
        tag.come(0, 1);
        tag.pass(1);
        doc.due("who has come later", tag.runner(3, 6), 1);
        doc.due("another one", tag.runner(2, 6), 2);
    }

    private void numberOfTheTurn() {
        doc.says(TURN, "The number of the turn is 1 more (0 at first).");
        ShadowTag tag = new ShadowTag();
        doc.due("0 at first", tag.count(0), 0);
        tag.pass(1);
        doc.due("pass(1)", tag.count(0), 1);
        tag.pass(99);
        doc.due("pass(99)", tag.count(0), 100);
    }

    private void lampsSwing() {
        doc.says(TURN, "Each lamp with a swing by which that number can be divided, on or off, comes to the next side "
            + "(behind 3 comes 0).");
        for (int swing = 0; swing <= 9; swing++) {
            ShadowTag tag = new ShadowTag();
            for (int lamp = 0; lamp < 3; lamp++) {
                tag.setLamp(lamp, 2, swing);
            }
            tag.light(1, false);
            for (int turn = 1; turn <= 40; turn++) {
                tag.pass(1);
                for (int lamp = 0; lamp < 3; lamp++) {
                    int side = swing == 0 ? lamp : (lamp + turn / swing) % 4;
                    doc.due("lamp " + lamp + ", swing " + swing + ", turn " + turn, tag.lamp(lamp, 0), side);
                }
            }
        }
        ShadowTag later = new ShadowTag();
        later.pass(4);
        later.setLamp(2, 2, 3);
        later.pass(1);
        doc.due("the turn 5", later.lamp(2, 0), 2);
        later.pass(1);
        doc.due("the turn 6", later.lamp(2, 0), 3);
        later.pass(3);
        doc.due("behind 3 comes 0", later.lamp(2, 0), 0);
        doc.due("the others stay", later.lamp(1, 0), 1);
    }

    private void lampsSwingBehindTags() {
        doc.says(TURN, "by which that number can be divided, on or off, comes to the next side");
        ShadowTag tag = Play.lit(0, 1, 55, 1, 56, 1);
        tag.setLamp(0, 2, 1);
        doc.due("not yet", tag.pass(1), 0);
        doc.due("the lamp has come to the right", tag.pass(1), 1);
        ShadowTag other = Play.lit(1, 1, 55, 1, 56, 1);
        other.setLamp(0, 2, 1);
        doc.due("before the lamp swings", other.pass(1), 1);
    }

    private void platformTurns() {
        doc.says(TURN, "If the setting 1 (0 to 9; 0 at first) is not 0, and the number can be divided by it, "
            + "the platform turns");
        for (int setting = 0; setting <= 9; setting++) {
            ShadowTag tag = Play.with(0, 1);
            tag.set(1, setting);
            int[] corners = {0, 9, 99, 90};
            for (int turn = 1; turn <= 40; turn++) {
                tag.pass(1);
                int times = setting == 0 ? 0 : turn / setting;
                String what = "setting " + setting + ", turn " + turn;
                doc.due(what, tag.count(9), times);
                doc.due(what, tag.runner(0, 0), corners[times % 4]);
            }
        }
        ShadowTag later = Play.with(0, 1);
        later.pass(4);
        later.set(1, 3);
        later.pass(1);
        doc.due("the turn 5", later.count(9), 0);
        later.pass(1);
        doc.due("the turn 6", later.count(9), 1);
        ShadowTag empty = new ShadowTag();
        empty.set(1, 1);
        empty.pass(99);
        doc.due("without runners", empty.count(9), 99);
    }

    private void cellsOfAPlatformThatTurns() {
        doc.says(TURN, "who stood in the row r and the column c stands in the row c and the column 9 - r");
        for (int cell = 0; cell < 100; cell++) {
            ShadowTag tag = Play.with(cell, 1);
            tag.set(1, 1);
            int row = cell / 10;
            int column = cell % 10;
            tag.pass(1);
            dueCells("from " + cell, tag, 10 * column + 9 - row);
            tag.pass(3);
            dueCells("from " + cell + ", four times", tag, cell);
        }
        ShadowTag all = Play.unlit(0, 1, 9, 1, 99, 1, 90, 1, 44, 1, 45, 1);
        all.set(1, 1);
        all.pass(1);
        dueCells("all of them", all, 9, 99, 90, 0, 45, 55);
        ShadowTag steps = going(Play.unlit(50, 1), 1);
        steps.set(1, 1);
        steps.pass(1);
        // He steps to 51 first, and the platform turns him to the row 1 and the column 4.
        dueCells("behind the step", steps, 14);
        doc.due("it is no step", steps.count(7), 1);
    }

    private void directionsTurn() {
        doc.says(TURN, "directions of runners turn, too (behind 3 comes 0)");
        ShadowTag tag = going(Play.unlit(44, 1, 22, 1, 77, 1, 27, 1, 72, 1), 0, 1, 2, 3);
        tag.set(1, 1);
        for (int turn = 1; turn <= 5; turn++) {
            tag.pass(1);
            for (int runner = 0; runner < 4; runner++) {
                doc.due("direction of " + runner + ", turn " + turn, tag.runner(runner, 2), (runner + turn) % 4);
            }
            doc.due("none stays none", tag.runner(4, 2), 4);
        }
    }

    private void lampsStay() {
        doc.says(TURN, "Lamps stay where they are.");
        ShadowTag tag = Play.with(55, 1);
        tag.setLamp(2, 0, 3);
        tag.set(1, 1);
        for (int turn = 0; turn < 5; turn++) {
            tag.pass(1);
            doc.due("lamp 0", tag.lamp(0, 0), 0);
            doc.due("lamp 1", tag.lamp(1, 0), 1);
            doc.due("lamp 2", tag.lamp(2, 0), 3);
        }
    }
}
