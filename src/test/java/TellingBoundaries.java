/** Boundary cases that the promises 15 to 20 and 25 name. */
final class TellingBoundaries {
    private final Boundary doc;

    TellingBoundaries(Boundary doc) {
        this.doc = doc;
    }

    void all() {
        promise15Runner();
        promise15What();
        promise15Numbers();
        promise15CellsOfShadows();
        promise16Lamp();
        promise16Numbers();
        promise16CellsInShadows();
        promise17RunnerLampAndWhat();
        promise17OrderOfChecks();
        promise17None();
        promise18And19Cell();
        promise18And19HowMany();
        promise18And19UpToTheFirstRunner();
        promise20Cell();
        promise20NobodyDoes();
        promise25What();
        promise25Runners();
        promise25Lamps();
        promise25Shadows();
        promise25Turns();
        promise25StatesAndText();
        cellsOfShadowsInAnyOrder();
    }

    private void promise15Runner() {
        doc.says("Promise 15", "`runner`: a runner", "UNKNOWN");
        ShadowTag tag = new ShadowTag();
        for (int runners = 0; runners <= 6; runners++) {
            doc.due(runners + " runners", tag.runner(runners, 0), ShadowTag.UNKNOWN);
            doc.due("UNKNOWN before BAD_VALUE", tag.runner(runners, 8), ShadowTag.UNKNOWN);
            doc.due("UNKNOWN before BAD_VALUE", tag.runner(-1, -1), ShadowTag.UNKNOWN);
            doc.due("the last one", tag.runner(runners - 1, 0), runners == 0 ? ShadowTag.UNKNOWN : 11 * (runners - 1));
            tag.come(11 * runners, 1);
        }
        for (int runner : Play.beside(0, 5)) {
            doc.due("runner(" + runner + ", 0)", tag.runner(runner, 0), ShadowTag.UNKNOWN);
        }
    }

    private void promise15What() {
        doc.says("Promise 15", "`what`: 0 for the cell", "BAD_VALUE.");
        ShadowTag tag = Play.with(55, 2);
        for (int what : Play.beside(0, 7)) {
            doc.due("runner(0, " + what + ")", tag.runner(0, what), ShadowTag.BAD_VALUE);
        }
        int[] due = {55, 2, 4, 0, 0, 0, 0, 6};
        for (int what = 0; what <= 7; what++) {
            doc.due("runner(0, " + what + ")", tag.runner(0, what), due[what]);
        }
    }

    private void promise15Numbers() {
        doc.says("Promise 15", "2 for the direction (4 for none), 3 for the respite, 4 for how often he was tagged so far, "
            + "5 for how often he tagged somebody so far, 6 for the turns of his account", "Returns the number");
        ShadowTag tag = Play.facing(0);
        tag.pass(99);
        int[][] due = {{55, 2, 4, 0, 49, 50, 50}, {45, 1, 4, 0, 50, 49, 49}};
        for (int runner = 0; runner < 2; runner++) {
            for (int what = 0; what < 7; what++) {
                doc.due("runner(" + runner + ", " + what + ")", tag.runner(runner, what), due[runner][what]);
            }
        }
        ShadowTag longest = Play.facing(9);
        longest.pass(1);
        doc.due("the longest respite", longest.runner(0, 3), 9);
        longest.pass(8);
        doc.due("the shortest respite", longest.runner(0, 3), 1);
        longest.pass(1);
        doc.due("none", longest.runner(0, 3), 0);
        ShadowTag ways = Play.unlit(0, 5, 99, 1);
        for (int way = 0; way < 4; way++) {
            ways.head(1, way);
            doc.due("direction", ways.runner(1, 2), way);
        }
        doc.due("the first cell", ways.runner(0, 0), 0);
        doc.due("the last cell", ways.runner(1, 0), 99);
        doc.due("none", ways.runner(0, 2), 4);
    }

    private void promise15CellsOfShadows() {
        doc.says("Promise 15", "7 for the cells of all his shadows, each once");
        doc.due("without lamps", Play.unlit(55, 5).runner(0, 7), 0);
        doc.due("at the edge", Play.lit(0, 4, 95, 5).runner(0, 7), 0);
        doc.due("one cell", Play.lit(0, 4, 85, 5).runner(0, 7), 1);
        ShadowTag tag = Play.with(44, 5);
        doc.due("three shadows", tag.runner(0, 7), 5 + 4 + 4);
        tag.setLamp(1, 0, 0);
        doc.due("two of one side", tag.runner(0, 7), 5 + 4);
        tag.setLamp(2, 0, 0);
        doc.due("three of one side", tag.runner(0, 7), 5);
        doc.due("the first cell", Play.lit(2, 1, 10, 5).runner(0, 7), 1);
        doc.due("the last cell", Play.lit(0, 1, 89, 5).runner(0, 7), 1);
        ShadowTag corner = Play.with(0, 5);
        corner.setLamp(0, 1, 4);
        corner.setLamp(1, 1, 4);
        corner.setLamp(1, 0, 3);
        doc.due("two to the edge", corner.runner(0, 7), 18);
        corner.come(1, 1);
        doc.due("one to the edge, one to a runner", corner.runner(0, 7), 10);
        doc.due("only his own", corner.runner(1, 7), 4 + 4);
    }

    private void promise16Lamp() {
        doc.says("Promise 16", "`lamp`: 0 to 2", "UNKNOWN", "BAD_VALUE.");
        ShadowTag tag = Play.with(55, 1);
        for (int lamp : Play.beside(0, 2)) {
            doc.due("lamp(" + lamp + ", 0)", tag.lamp(lamp, 0), ShadowTag.UNKNOWN);
            doc.due("UNKNOWN before BAD_VALUE", tag.lamp(lamp, 5), ShadowTag.UNKNOWN);
        }
        for (int what : Play.beside(0, 4)) {
            for (int lamp = 0; lamp < 3; lamp++) {
                doc.due("lamp(" + lamp + ", " + what + ")", tag.lamp(lamp, what), ShadowTag.BAD_VALUE);
            }
        }
    }

    private void promise16Numbers() {
        doc.says("Promise 16", "`what`: 0 for its side, 1 for its reach, 2 for its swing, 3 for whether it is on (1, otherwise 0)",
            "Returns the number");
        int[][] least = {{0, 1, 0}, {1, 1, 0}, {2, 1, 0}};
        int[] most = {3, 4, 9};
        for (int lamp = 0; lamp < 3; lamp++) {
            ShadowTag tag = new ShadowTag();
            for (int what = 0; what < 3; what++) {
                doc.due("at first", tag.lamp(lamp, what), least[lamp][what]);
                tag.setLamp(lamp, what, most[what]);
                doc.due("the greatest", tag.lamp(lamp, what), most[what]);
            }
            doc.due("on", tag.lamp(lamp, 3), 1);
            tag.light(lamp, false);
            doc.due("off", tag.lamp(lamp, 3), 0);
            doc.due("off, its side is told", tag.lamp(lamp, 0), 3);
            doc.due("another one", tag.lamp((lamp + 1) % 3, 3), 1);
        }
    }

    private void promise16CellsInShadows() {
        doc.says("Promise 16", "4 for the cells that are in shadows by it");
        doc.due("nobody", new ShadowTag().lamp(0, 4), 0);
        doc.due("off", Play.unlit(55, 5).lamp(0, 4), 0);
        doc.due("at the edge", Play.lit(0, 4, 95, 5).lamp(0, 4), 0);
        doc.due("one of two at the edge", Play.lit(3, 1, 9, 1, 0, 1).lamp(0, 4), 1);
        doc.due("the first cell", Play.lit(1, 1, 1, 5).lamp(0, 4), 1);
        doc.due("the last cell", Play.lit(3, 1, 98, 5).lamp(0, 4), 1);
        doc.due("in a column", Play.lit(0, 1, 5, 5, 15, 1, 25, 1).lamp(0, 4), 3);
        doc.due("six, each to the edge", Play.lit(0, 4, 0, 5, 1, 5, 2, 5, 3, 5, 4, 5, 5, 5).lamp(0, 4), 54);
        doc.due("another lamp", Play.lit(0, 4, 0, 5, 1, 5).lamp(1, 4), 0);
    }

    private void promise17RunnerLampAndWhat() {
        doc.says("Promise 17", "Tells the shadow of a runner by a lamp.", "`runner`: a runner", "`lamp`: 0 to 2",
            "UNKNOWN (runner or lamp)", "BAD_VALUE");
        doc.due("nobody", new ShadowTag().shadow(0, 0, 0), ShadowTag.UNKNOWN);
        ShadowTag tag = Play.with(55, 1, 57, 1);
        for (int runner : Play.beside(0, 1)) {
            doc.due("shadow(" + runner + ", 0, 0)", tag.shadow(runner, 0, 0), ShadowTag.UNKNOWN);
        }
        for (int lamp : Play.beside(0, 2)) {
            doc.due("shadow(0, " + lamp + ", 0)", tag.shadow(0, lamp, 0), ShadowTag.UNKNOWN);
        }
        for (int what : Play.beside(0, 2)) {
            doc.due("shadow(1, 2, " + what + ")", tag.shadow(1, 2, what), ShadowTag.BAD_VALUE);
        }
        doc.due("the last of each", tag.shadow(1, 2, 1), 47);
    }

    private void promise17OrderOfChecks() {
        doc.says("Promise 17", "UNKNOWN (runner or lamp)", "BAD_VALUE", "NONE for 1 if it has no cell");
        ShadowTag tag = Play.with(95, 1);
        doc.due("runner before BAD_VALUE", tag.shadow(1, 0, 3), ShadowTag.UNKNOWN);
        doc.due("lamp before BAD_VALUE", tag.shadow(0, 3, 3), ShadowTag.UNKNOWN);
        doc.due("both", tag.shadow(-1, -1, -1), ShadowTag.UNKNOWN);
        doc.due("BAD_VALUE before NONE", tag.shadow(0, 0, 3), ShadowTag.BAD_VALUE);
        doc.due("NONE", tag.shadow(0, 0, 1), ShadowTag.NONE);
    }

    private void promise17None() {
        doc.says("Promise 17", "`what`: 0 for its cells (how many, 0 if the lamp is off), 1 for the last one of them, "
            + "2 for the runner at whom it ends (who stands on its last cell)", "Returns the number",
            "NONE for 1 if it has no cell, for 2 if it does not end at a runner.");
        ShadowTag[] without = {Play.unlit(55, 5), Play.lit(0, 4, 95, 5), Play.lit(1, 4, 50, 5), Play.lit(2, 4, 5, 5),
            Play.lit(3, 4, 59, 5)};
        for (ShadowTag tag : without) {
            doc.due("cells", tag.shadow(0, 0, 0), 0);
            doc.due("last", tag.shadow(0, 0, 1), ShadowTag.NONE);
            doc.due("at whom", tag.shadow(0, 0, 2), ShadowTag.NONE);
        }
        ShadowTag free = Play.lit(2, 1, 10, 1, 99, 1);
        doc.due("cells", free.shadow(0, 0, 0), 1);
        doc.due("the cell 0", free.shadow(0, 0, 1), 0);
        doc.due("nobody", free.shadow(0, 0, 2), ShadowTag.NONE);
        free.come(0, 1);
        doc.due("somebody on its last cell", free.shadow(0, 0, 2), 2);
        free.light(0, false);
        doc.due("off", free.shadow(0, 0, 0), 0);
        doc.due("off", free.shadow(0, 0, 1), ShadowTag.NONE);
        doc.due("off", free.shadow(0, 0, 2), ShadowTag.NONE);
        doc.due("at the runner 0", Play.lit(0, 1, 65, 1, 55, 1).shadow(1, 0, 2), 0);
    }

    private void promise18And19Cell() {
        doc.says("Promise 18", "`cell`: 0 to 99", "UNKNOWN.");
        doc.says("Promise 19", "`cell`: 0 to 99", "UNKNOWN.");
        ShadowTag tag = Play.lit(2, 4, 90, 5, 89, 5);
        tag.light(1, true);
        tag.setLamp(1, 0, 0);
        for (int cell : Play.beside(0, 99)) {
            doc.due("darkness(" + cell + ")", tag.darkness(cell), ShadowTag.UNKNOWN);
            doc.due("looked(" + cell + ")", tag.looked(cell), ShadowTag.UNKNOWN);
        }
        doc.due("darkness(0)", tag.darkness(0), 1);
        doc.due("looked(0)", tag.looked(0), 1);
        doc.due("darkness(99)", tag.darkness(99), 1);
        doc.due("looked(99)", tag.looked(99), 1);
    }

    private void promise18And19HowMany() {
        doc.says("Promise 18", "Tells in how many shadows a cell is, told shadow by shadow.", "Returns how many");
        doc.says("Promise 19", "Tells the same in another way", "Returns how many");
        ShadowTag tag = Play.with(45, 1, 56, 1, 65, 1);
        for (int lamps = 3; lamps >= 0; lamps--) {
            doc.due(lamps + " lamps, of three runners", tag.darkness(55), lamps);
            doc.due(lamps + " lamps, of three runners", tag.looked(55), lamps);
            tag.light(lamps - 1, false);
        }
        ShadowTag one = Play.with(45, 1);
        one.setLamp(1, 0, 0);
        one.setLamp(2, 0, 0);
        for (int lamps = 3; lamps >= 0; lamps--) {
            doc.due(lamps + " lamps at one side", one.darkness(55), lamps);
            doc.due(lamps + " lamps at one side", one.looked(55), lamps);
            one.light(lamps - 1, false);
        }
        doc.due("nobody", new ShadowTag().darkness(55), 0);
        doc.due("nobody", new ShadowTag().looked(55), 0);
    }

    private void promise18And19UpToTheFirstRunner() {
        doc.says("Promise 19", "by looking from the cell toward each lamp that is on, up to the first runner");
        doc.says("Promise 18", "Tells in how many shadows a cell is");
        ShadowTag tag = Play.lit(0, 1, 5, 5, 15, 1);
        int[] due = {0, 1, 1, 0, 0, 0, 0, 0, 0, 0};
        for (int row = 0; row < 10; row++) {
            doc.due("a low one before a high one, darkness " + row, tag.darkness(5 + 10 * row), due[row]);
            doc.due("a low one before a high one, looked " + row, tag.looked(5 + 10 * row), due[row]);
        }
        ShadowTag last = Play.lit(0, 1, 5, 5);
        doc.due("the last cell", last.looked(55), 1);
        doc.due("the last cell", last.darkness(55), 1);
        doc.due("behind it", last.looked(65), 0);
        doc.due("behind it", last.darkness(65), 0);
        doc.due("on the other side", Play.lit(0, 4, 55, 5).looked(45), 0);
        doc.due("on the other side", Play.lit(0, 4, 55, 5).darkness(45), 0);
    }

    private void promise20Cell() {
        doc.says("Promise 20", "`cell`: 0 to 99", "UNKNOWN");
        ShadowTag tag = Play.with(0, 1, 99, 1);
        for (int cell : Play.beside(0, 99)) {
            doc.due("at(" + cell + ")", tag.at(cell), ShadowTag.UNKNOWN);
        }
        doc.due("at(0)", tag.at(0), 0);
        doc.due("at(99)", tag.at(99), 1);
    }

    private void promise20NobodyDoes() {
        doc.says("Promise 20", "Tells who stands on a cell.", "Returns the runner", "NONE if nobody does.");
        ShadowTag tag = Play.unlit(0, 1, 55, 1);
        // Rows that no runner uses yet must not stand for runners on the cell 0.
        doc.due("nobody on the first cell", Play.with(1, 1).at(0), ShadowTag.NONE);
        doc.due("nobody at all", new ShadowTag().at(0), ShadowTag.NONE);
        tag.head(1, 0);
        tag.pass(1);
        doc.due("where he was", tag.at(55), ShadowTag.NONE);
        doc.due("where he is", tag.at(45), 1);
        tag.undo();
        doc.due("where he is again", tag.at(55), 1);
        doc.due("where he was", tag.at(45), ShadowTag.NONE);
        for (int runner = 2; runner < 6; runner++) {
            tag.come(90 + runner, 1);
            doc.due("each", tag.at(90 + runner), runner);
        }
    }

    private void promise25What() {
        doc.says("Promise 25", "`what`: 0 for the number of the turn", "Returns the number", "BAD_VALUE.");
        ShadowTag tag = Play.with(55, 1);
        for (int what : Play.beside(0, 13)) {
            doc.due("count(" + what + ")", tag.count(what), ShadowTag.BAD_VALUE);
        }
    }

    private void promise25Runners() {
        doc.says("Promise 25", "1 for runners, 2 for the catcher (NONE without runners)");
        ShadowTag tag = new ShadowTag();
        doc.due("no catcher", tag.count(2), ShadowTag.NONE);
        for (int runners = 0; runners <= 6; runners++) {
            doc.due("count(1)", tag.count(1), runners);
            tag.come(runners, 1);
            doc.due("count(2)", tag.count(2), 0);
        }
        doc.due("no more than 6", tag.count(1), 6);
        ShadowTag last = Play.with(55, 1, 0, 1, 9, 1, 90, 1, 99, 1, 45, 1);
        last.pass(1);
        doc.due("the last one is the catcher", last.count(2), 5);
    }

    private void promise25Lamps() {
        doc.says("Promise 25", "3 for lamps that are on");
        ShadowTag tag = new ShadowTag();
        for (int lamp = 0; lamp < 3; lamp++) {
            doc.due("count(3)", tag.count(3), 3 - lamp);
            tag.light(lamp, false);
        }
        doc.due("none", tag.count(3), 0);
    }

    private void promise25Shadows() {
        doc.says("Promise 25", "4 for cells that are in any shadow, 5 for runners who have no shadow");
        doc.due("the first cell", Play.lit(2, 1, 10, 5).count(4), 1);
        doc.due("the last cell", Play.lit(0, 1, 89, 5).count(4), 1);
        ShadowTag empty = new ShadowTag();
        doc.due("nobody", empty.count(4), 0);
        doc.due("nobody", empty.count(5), 0);
        ShadowTag tag = Play.with(45, 1, 56, 1, 65, 1);
        // 55 three times, and 44, 35; 66, 46; 75, 64: each once.
        doc.due("each once", tag.count(4), 7);
        doc.due("all have one", tag.count(5), 0);
        for (int lamp = 0; lamp < 3; lamp++) {
            tag.light(lamp, false);
        }
        doc.due("none is dark", tag.count(4), 0);
        doc.due("nobody has one", tag.count(5), 3);
        ShadowTag full = Play.lit(0, 4, 0, 1, 1, 2, 2, 3, 3, 4, 4, 5, 95, 5);
        doc.due("of six", full.count(4), 4 + 8 + 9 + 9 + 9);
        doc.due("one of six", full.count(5), 1);
    }

    private void promise25Turns() {
        doc.says("Promise 25", "6 for tags so far, 7 for steps that runners went so far, 8 for how often one was stopped "
            + "(by the edge, or by another one) so far, 9 for how often the platform turned so far");
        ShadowTag tag = Play.unlit(90, 1, 91, 1, 5, 1);
        tag.head(0, 1);
        tag.head(1, 1);
        int[][] due = {{1, 1}, {3, 1}};
        for (int turn = 0; turn < 2; turn++) {
            tag.pass(1);
            doc.due("steps", tag.count(7), due[turn][0]);
            doc.due("by another one", tag.count(8), due[turn][1]);
        }
        // 1 comes to 99 in the turn 8, and 0 to 98 in the turn 9; from then on both are stopped.
        tag.pass(10);
        doc.due("steps", tag.count(7), 16);
        doc.due("by the edge, or by another one", tag.count(8), 8);
        doc.due("tags", tag.count(6), 0);
        tag.set(1, 1);
        tag.pass(99);
        doc.due("turned", tag.count(9), 99);
        tag.undo();
        doc.due("so far, undone", tag.count(9), 0);
    }

    private void promise25StatesAndText() {
        doc.says("Promise 25", "10 and 11 for the settings, 12 for the states in the history, 13 for the length of the text");
        ShadowTag tag = new ShadowTag();
        for (int time = 0; time <= 9; time++) {
            tag.set(0, time);
            tag.set(1, 9 - time);
            doc.due("count(10)", tag.count(10), time);
            doc.due("count(11)", tag.count(11), 9 - time);
            doc.due("count(12)", tag.count(12), Math.min(4, 2 * time + 2));
        }
        for (int length = 0; length <= 60; length++) {
            doc.due("count(13)", tag.count(13), length);
            tag.type('r');
        }
        doc.due("no longer than 60", tag.count(13), 60);
        tag.clearText();
        doc.due("empty", tag.count(13), 0);
        for (int left = 4; left >= 0; left--) {
            doc.due("count(12)", tag.count(12), left);
            tag.undo();
        }
        doc.due("empty", tag.count(12), 0);
    }

    /** What one call has found dark is not dark for the next one. */
    private void cellsOfShadowsInAnyOrder() {
        doc.says("Promise 15", "7 for the cells of all his shadows, each once");
        doc.says("Promise 16", "4 for the cells that are in shadows by it");
        doc.says("Promise 25", "4 for cells that are in any shadow");
        ShadowTag tag = Play.with(55, 2, 99, 3);
        tag.light(1, false);
        // The shadows of 55 are 65, 75 and 45, 35; those of 99 are 89, 79, 69.
        int[] due = {4, 3, 2, 0, 5, 7, 5};
        for (int first = 0; first < due.length; first++) {
            for (int second = 0; second < due.length; second++) {
                doc.due("cells " + first + " before " + second, cells(tag, first), due[first]);
                doc.due("cells " + second + " behind " + first, cells(tag, second), due[second]);
            }
        }
    }

    private static int cells(ShadowTag tag, int which) {
        switch (which) {
            case 0: return tag.runner(0, 7);
            case 1: return tag.runner(1, 7);
            case 2: return tag.lamp(0, 4);
            case 3: return tag.lamp(1, 4);
            case 4: return tag.lamp(2, 4);
            case 5: return tag.count(4);
            default: return tag.stepsTo(1);
        }
    }
}
