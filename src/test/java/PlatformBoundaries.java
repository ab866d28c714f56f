/** Boundary cases that 'What it is' and 'Terms' name, up to 'A TURN'. */
final class PlatformBoundaries {
    private static final String PLATFORM = "THE PLATFORM, RUNNERS";
    private static final String LAMPS = "LAMPS, SHADOWS";
    /** What is added to a cell to come to the next one: up, right, down, left. */
    private static final int[] STEP = {-10, 1, 10, -1};

    private final Boundary doc;

    PlatformBoundaries(Boundary doc) {
        this.doc = doc;
    }

    void all() {
        usedFor512Calls();
        tenRowsOfTenCells();
        rowsAndColumns();
        noWayAroundTheEdge();
        sidesAndDirections();
        atMostSixRunners();
        eachOnACellOfItsOwn();
        heights();
        noDirection();
        firstIsTheCatcher();
        threeLamps();
        onlyLampsThatAreOn();
        heightTimesReach();
        endsAtTheEdge();
        endsWithAnotherRunner();
        nearestRunnerEndsIt();
        ownCellIsNotInIt();
        hasAShadow();
    }

    private void usedFor512Calls() {
        doc.says("What it is", "at most 512 calls after it has been made");
        ShadowTag tag = new ShadowTag();
        for (int call = 1; call <= 509; call++) {
            doc.due("call " + call, tag.pass(1), 0);
        }
        doc.due("call 510", tag.count(0), 509);
        doc.due("call 511", tag.undo(), 3);
        doc.due("call 512", tag.count(0), 508);
        ShadowTag typed = new ShadowTag();
        for (int call = 1; call <= 512; call++) {
            doc.due("typing call " + call, typed.type('.'), call <= 60 ? call : ShadowTag.FULL);
        }
    }

    private void tenRowsOfTenCells() {
        doc.says(PLATFORM, "The platform has 10 rows of 10 cells");
        for (int cell = 0; cell < 100; cell++) {
            ShadowTag tag = new ShadowTag();
            doc.due("come(" + cell + ", 1)", tag.come(cell, 1), 0);
            doc.due("at(" + cell + ")", tag.at(cell), 0);
            doc.due("cell", tag.runner(0, 0), cell);
        }
        ShadowTag tag = new ShadowTag();
        for (int cell : Play.beside(0, 99)) {
            doc.due("come(" + cell + ", 1)", tag.come(cell, 1), ShadowTag.UNKNOWN);
        }
    }

    private void rowsAndColumns() {
        doc.says(PLATFORM, "the cell c is in the row c / 10, rounded down, and in the column c modulo 10");
        for (int cell = 0; cell < 100; cell++) {
            boolean[] edge = {cell / 10 == 0, cell % 10 == 9, cell / 10 == 9, cell % 10 == 0};
            for (int way = 0; way < 4; way++) {
                ShadowTag tag = Play.lit((way + 2) % 4, 1, cell, 1);
                tag.head(0, way);
                int next = edge[way] ? cell : cell + STEP[way];
                doc.due("shadow " + way + " from " + cell, tag.shadow(0, 0, 1), edge[way] ? ShadowTag.NONE : next);
                tag.pass(1);
                doc.due("way " + way + " from " + cell, tag.runner(0, 0), next);
            }
        }
    }

    private void noWayAroundTheEdge() {
        doc.says(PLATFORM, "in the row c / 10, rounded down, and in the column c modulo 10");
        ShadowTag right = Play.lit(3, 4, 19, 5);
        doc.due("darkness(20)", right.darkness(20), 0);
        doc.due("looked(20)", right.looked(20), 0);
        ShadowTag left = Play.lit(1, 4, 20, 5);
        doc.due("darkness(19)", left.darkness(19), 0);
        doc.due("looked(19)", left.looked(19), 0);
        ShadowTag down = Play.lit(0, 4, 94, 5);
        doc.due("darkness(4)", down.darkness(4), 0);
        doc.due("looked(4)", down.looked(4), 0);
        ShadowTag up = Play.lit(2, 4, 4, 5);
        doc.due("darkness(94)", up.darkness(94), 0);
        doc.due("looked(94)", up.looked(94), 0);
        // The only cell of the shadow of 21 is 20, and 19 is at the other end of the row above.
        doc.due("steps from 19 to 20", Play.lit(1, 1, 19, 1, 21, 1).stepsTo(1), 10);
        doc.due("steps from 20 to 19", Play.lit(3, 1, 20, 1, 18, 1).stepsTo(1), 10);
    }

    private void sidesAndDirections() {
        doc.says(PLATFORM, "The sides are 0 (above, along the row 0), 1 (right), 2 (below), 3 (left)",
            "the directions are likewise: 0 goes up, 1 right, 2 down, 3 left");
        int[] shadows = {65, 54, 45, 56};
        int[] ways = {45, 56, 65, 54};
        for (int side = 0; side < 4; side++) {
            ShadowTag tag = Play.lit(side, 1, 55, 1);
            doc.due("shadow of side " + side, tag.shadow(0, 0, 1), shadows[side]);
            doc.due("looked", tag.looked(shadows[side]), 1);
            tag.head(0, side);
            tag.pass(1);
            doc.due("direction " + side, tag.runner(0, 0), ways[side]);
        }
    }

    private void atMostSixRunners() {
        doc.says(PLATFORM, "At most 6 runners are on it, numbered from 0 in the order in which they came");
        ShadowTag tag = new ShadowTag();
        int[] cells = {99, 0, 50, 49, 9, 90};
        for (int runner = 0; runner < 6; runner++) {
            doc.due("not yet " + runner, tag.runner(runner, 0), ShadowTag.UNKNOWN);
            doc.due("come", tag.come(cells[runner], 1), runner);
            doc.due("runner(" + runner + ", 0)", tag.runner(runner, 0), cells[runner]);
            doc.due("count(1)", tag.count(1), runner + 1);
        }
        doc.due("a seventh", tag.come(55, 1), ShadowTag.FULL);
        doc.due("count(1)", tag.count(1), 6);
        doc.due("runner(6, 0)", tag.runner(6, 0), ShadowTag.UNKNOWN);
        doc.due("at(55)", tag.at(55), ShadowTag.NONE);
    }

    private void eachOnACellOfItsOwn() {
        doc.says(PLATFORM, "each on a cell of its own");
        ShadowTag tag = Play.with(44, 1, 45, 1, 55, 1, 54, 1, 34, 1, 0, 1);
        tag.set(1, 7);
        for (int runner = 0; runner < 6; runner++) {
            tag.head(runner, (runner * 3 + 1) % 4);
        }
        for (int turn = 0; turn < 40; turn++) {
            tag.pass(1);
            boolean[] taken = new boolean[100];
            for (int runner = 0; runner < 6; runner++) {
                int cell = tag.runner(runner, 0);
                doc.holds("turn " + turn + ": " + runner + " has " + cell + " alone", !taken[cell]);
                taken[cell] = true;
            }
        }
    }

    private void heights() {
        doc.says(PLATFORM, "with a height (1 to 5)");
        for (int height = 1; height <= 5; height++) {
            ShadowTag tag = Play.with(50, height);
            doc.due("height", tag.runner(0, 1), height);
            doc.due("shadow", tag.shadow(0, 2, 0), height);
        }
        for (int height : Play.beside(1, 5)) {
            doc.due("come(50, " + height + ")", new ShadowTag().come(50, height), ShadowTag.BAD_VALUE);
        }
    }

    private void noDirection() {
        doc.says(PLATFORM, "a direction (0 to 3, or none: then the runner stays; none at first)");
        ShadowTag tag = Play.unlit(55, 1, 0, 1);
        doc.due("none at first", tag.runner(0, 2), 4);
        tag.pass(99);
        doc.due("stays", tag.runner(0, 0), 55);
        doc.due("no step", tag.count(7), 0);
        doc.due("no stop", tag.count(8), 0);
        tag.head(1, 1);
        tag.pass(2);
        tag.head(1, -1);
        tag.pass(9);
        doc.due("stays again", tag.runner(1, 0), 2);
        doc.due("steps", tag.count(7), 2);
        doc.due("stops", tag.count(8), 0);
    }

    private void firstIsTheCatcher() {
        doc.says(PLATFORM, "The first runner who comes is the catcher; there is just one, once there are runners.");
        ShadowTag tag = new ShadowTag();
        doc.due("without runners", tag.count(2), ShadowTag.NONE);
        tag.pass(9);
        doc.due("without runners", tag.count(2), ShadowTag.NONE);
        tag.come(99, 1);
        doc.due("the first", tag.count(2), 0);
        tag.undo();
        doc.due("without runners again", tag.count(2), ShadowTag.NONE);
        tag.come(55, 1);
        tag.come(45, 1);
        doc.due("the first", tag.count(2), 0);
        tag.pass(1);
        doc.due("after a tag", tag.count(2), 1);
        tag.come(0, 1);
        doc.due("a later one is not", tag.count(2), 1);
        int catchers = 0;
        for (int runner = 0; runner < 3; runner++) {
            catchers += tag.reason(runner) == 1 ? 1 : 0;
        }
        doc.due("just one", catchers, 1);
    }

    private void threeLamps() {
        doc.says(LAMPS, "There are 3 lamps, 0 to 2", "the lamp k is at the side k at first, is on",
            "has a reach (1 to 4; 1 at first)", "a swing (0 to 9; 0 at first: it does not swing)");
        ShadowTag tag = Play.with(55, 1);
        for (int time = 0; time < 2; time++) {
            for (int lamp = 0; lamp < 3; lamp++) {
                doc.due("side", tag.lamp(lamp, 0), lamp);
                doc.due("reach", tag.lamp(lamp, 1), 1);
                doc.due("swing", tag.lamp(lamp, 2), 0);
                doc.due("on", tag.lamp(lamp, 3), 1);
                doc.due("cells", tag.shadow(0, lamp, 0), 1);
            }
            doc.due("all on", tag.count(3), 3);
            // No lamp swings in these turns, so all of it holds a second time.
            doc.due("pass(99)", tag.pass(99), 0);
        }
        for (int lamp : Play.beside(0, 2)) {
            doc.due("light(" + lamp + ", false)", tag.light(lamp, false), ShadowTag.UNKNOWN);
            doc.due("setLamp(" + lamp + ", 0, 0)", tag.setLamp(lamp, 0, 0), ShadowTag.UNKNOWN);
            doc.due("lamp(" + lamp + ", 0)", tag.lamp(lamp, 0), ShadowTag.UNKNOWN);
            doc.due("shadow(0, " + lamp + ", 0)", tag.shadow(0, lamp, 0), ShadowTag.UNKNOWN);
        }
    }

    private void onlyLampsThatAreOn() {
        doc.says(LAMPS, "The shadow of a runner by a lamp that is on");
        ShadowTag tag = Play.unlit(55, 5, 45, 1);
        doc.due("darkness(65)", tag.darkness(65), 0);
        doc.due("looked(65)", tag.looked(65), 0);
        doc.due("cells", tag.count(4), 0);
        doc.due("without shadow", tag.count(5), 2);
        doc.due("no tag", tag.pass(9), 0);
        for (int lamp = 0; lamp < 3; lamp++) {
            doc.due("cells", tag.shadow(0, lamp, 0), 0);
            tag.light(lamp, true);
            doc.holds("on, there are cells", tag.shadow(0, lamp, 0) > 0);
            tag.light(lamp, false);
        }
    }

    private void heightTimesReach() {
        doc.says(LAMPS, "the cells one behind the other from the runner's cell on, away from the side of the lamp",
            "as many as the runner's height times the lamp's reach");
        for (int height = 1; height <= 5; height++) {
            for (int reach = 1; reach <= 4; reach++) {
                ShadowTag tag = Play.lit(0, reach, 5, height);
                int cells = Math.min(9, height * reach);
                String what = height + " times " + reach;
                doc.due(what, tag.shadow(0, 0, 0), cells);
                doc.due(what, tag.shadow(0, 0, 1), 5 + 10 * cells);
                for (int row = 1; row < 10; row++) {
                    doc.due(what + ", darkness", tag.darkness(5 + 10 * row), row <= cells ? 1 : 0);
                    doc.due(what + ", looked", tag.looked(5 + 10 * row), row <= cells ? 1 : 0);
                }
            }
        }
    }

    private void endsAtTheEdge() {
        doc.says(LAMPS, "but it ends at the edge");
        for (int cell = 0; cell < 100; cell++) {
            int[] cells = {9 - cell / 10, cell % 10, cell / 10, 9 - cell % 10};
            int[] last = {90 + cell % 10, cell - cell % 10, cell % 10, cell - cell % 10 + 9};
            for (int side = 0; side < 4; side++) {
                ShadowTag tag = Play.lit(side, 4, cell, 5);
                String what = "from " + cell + " by side " + side;
                doc.due(what, tag.shadow(0, 0, 0), cells[side]);
                doc.due(what, tag.shadow(0, 0, 1), cells[side] == 0 ? ShadowTag.NONE : last[side]);
                doc.due(what, tag.shadow(0, 0, 2), ShadowTag.NONE);
            }
        }
    }

    private void endsWithAnotherRunner() {
        doc.says(LAMPS, "and with the cell of another runner, which is in it");
        for (int side = 0; side < 4; side++) {
            int away = STEP[(side + 2) % 4];
            for (int distance = -4; distance <= 4; distance++) {
                if (distance == 0) {
                    continue;
                }
                int other = 55 + away * distance;
                ShadowTag tag = Play.lit(side, 1, 55, 3, other, 1);
                boolean meets = distance > 0 && distance <= 3;
                String what = "side " + side + ", another runner " + distance + " cells away";
                doc.due(what, tag.shadow(0, 0, 0), meets ? distance : 3);
                doc.due(what, tag.shadow(0, 0, 1), meets ? other : 55 + away * 3);
                doc.due(what, tag.shadow(0, 0, 2), meets ? 1 : ShadowTag.NONE);
                doc.due(what + ", his cell", tag.darkness(other), meets ? 1 : 0);
                doc.due(what + ", his cell looked", tag.looked(other), meets ? 1 : 0);
            }
        }
    }

    private void nearestRunnerEndsIt() {
        doc.says(LAMPS, "it ends at the edge, and with the cell of another runner");
        ShadowTag tag = Play.lit(0, 4, 5, 5, 65, 1, 35, 1, 36, 1, 25, 1);
        doc.due("cells", tag.shadow(0, 0, 0), 2);
        doc.due("at the nearest", tag.shadow(0, 0, 2), 4);
        doc.due("the next one", tag.shadow(4, 0, 2), 2);
        doc.due("farther", tag.shadow(2, 0, 2), 1);
        doc.due("beside", tag.shadow(3, 0, 0), 4);
        doc.due("at the edge, at a runner", Play.lit(0, 4, 5, 5, 95, 1).shadow(0, 0, 2), 1);
        doc.due("the catcher ends one, too", Play.lit(0, 4, 95, 1, 5, 5).shadow(1, 0, 2), 0);
    }

    private void ownCellIsNotInIt() {
        doc.says(LAMPS, "(The runner's own cell is not in it.)");
        ShadowTag tag = Play.with(55, 5);
        doc.due("darkness(55)", tag.darkness(55), 0);
        doc.due("looked(55)", tag.looked(55), 0);
        doc.due("nobody is tagged", tag.pass(9), 0);
        doc.due("the catcher", tag.count(2), 0);
        ShadowTag near = Play.with(55, 1, 11, 5);
        doc.due("near.darkness(11)", near.darkness(11), 0);
        doc.due("near.looked(11)", near.looked(11), 0);
    }

    private void hasAShadow() {
        doc.says(LAMPS, "A runner has a shadow, if any of the lamps gives one with a cell at least.");
        ShadowTag corner = Play.with(0, 5);
        doc.due("only the lamp above gives one", corner.count(5), 0);
        corner.light(0, false);
        doc.due("the others give none", corner.count(5), 1);
        corner.setLamp(2, 0, 3);
        doc.due("the last lamp gives one", corner.count(5), 0);
        ShadowTag none = Play.lit(0, 4, 0, 1, 95, 5);
        doc.due("no cell", none.reason(1), 2);
        doc.due("no cell", none.stepsTo(1), ShadowTag.NOT_POSSIBLE);
        doc.due("no cell", none.count(5), 1);
        ShadowTag one = Play.lit(0, 4, 0, 1, 85, 5);
        doc.due("one cell", one.reason(1), 4);
        doc.due("one cell", one.stepsTo(1), 14);
        doc.due("one cell", one.count(5), 0);
        doc.due("one cell, of another runner", Play.lit(0, 1, 85, 1, 95, 1).count(5), 1);
    }
}
