/** Each sentence of the document that names a boundary case, with a test of its own. */
public final class EdgesTest {

    /** Section and sentence of those that name no boundary case. */
    private static final String[] WITHOUT_BOUNDARY = {
        "What it is|A typewriter with type bars: bars at angles that need time to rise and to fall back, jams "
                + "of bars that are struck too fast one behind the other, tab stops, margins with a bell and a lock, a "
                + "ribbon that is worn and runs forth and back between its spools, and the page that comes of it.",
        "Terms|The class parses a machine, presses keys, types texts key by key, tells the page, the ribbon, "
                + "times and reasons, and what would be.",
        "term 1|All numbers are integers.",
        "term 4|A text to type is a row of bytes.",
        "term 5|The grammar, with literals in quotes:",
        "term 6|Ahead of the calls `append`, `load`, `parseError`, `errorPosition`, `buffered` the interface "
                + "says: ---- input.",
        "term 6|Ahead of the calls `count`, `setting`, `carriage`, `bar`, `barOf`, `latest`, `ribbon`, "
                + "`head`, `sign`, `darkness`, `isStop`, `reason`, `reasonAt` the interface says: ---- what there is.",
        "term 6|Ahead of the calls `lineLength`, `words`, `letters`, `palest`, `meanDarkness`, `inkShare`, "
                + "`slowest`, `nextStop`, `bellIn` the interface says: ---- looks.",
        "term 6|Ahead of the calls `writeLine`, `writeShades`, `writeRuler`, `textByte` the interface says: "
                + "---- texts.",
        "promise 3|- `n`: number of bytes to parse",
        "promise 7|Returns a count.",
        "promise 7|Returns the count.",
        "promise 8|Returns a setting.",
        "promise 8|Returns the setting.",
        "promise 9|Returns a property of the carriage.",
        "promise 9|Returns the property.",
        "promise 10|Returns a property of a bar.",
        "promise 10|- `bar`: number of the bar",
        "promise 10|Returns the property.",
        "promise 13|Returns the ink at a place of the ribbon.",
        "promise 14|Returns a property of the ribbon.",
        "promise 14|Returns the property.",
        "promise 29|- `bar`: number of the bar",
        "promise 29|- `shift`: whether with shift (it does not matter)",
        "promise 30|- `bar`: number of the bar",
        "promise 31|- `bar`: number of the first bar",
        "promise 31|- `other`: number of the second bar",
        "promise 33|- `n`: number of bytes",
        "promise 33|Returns the number.",
        "promise 34|- `n`: number of bytes",
        "promise 37|- `line`: number of the line",
        "promise 37|Returns the number of bytes of the text.",
        "promise 38|- `line`: number of the line",
        "promise 38|Returns the number of bytes of the text.",
        "promise 39|Returns the number of bytes of the text.",
        "promise 40|Returns a byte of the text that was written last.",
        "promise 40|Returns the byte.",
        "promise 41|Presses the letter key of a bar.",
        "promise 41|- `bar`: number of the bar",
        "promise 41|- `shift`: whether with shift",
        "promise 42|Presses another key.",
        "promise 43|- `n`: number of bytes",
        "promise 44|Sets a tab stop at a column, or takes it away.",
        "promise 45|Sets a margin.",
        "promise 45|- `right`: whether RIGHT, otherwise LEFT",
        "promise 46|Sets a setting.",
        "promise 47|Lets time pass.",
        "Not promised|How the state is held inside the object is free, as are the speed of each call, the "
                + "text of toString and the behaviour of equals and hashCode.",
        "Not promised|Use of one object from several threads at once is not promised to be safe.",
        "Not promised|Nothing is promised beyond the answers and state changes described above, and nothing "
                + "about an object after its 512th call."
    };

    public static void main(String[] args) throws Exception {
        Edge edge = new Edge();
        MachineEdges.hold(edge);
        TextEdges.hold(edge);
        StateEdges.hold(edge);
        LooksEdges.hold(edge);
        WouldEdges.hold(edge);
        WrittenEdges.hold(edge);
        KeyEdges.hold(edge);
        ChangeEdges.hold(edge);
        UndoEdges.hold(edge);
        RefusedEdges.hold(edge);
        edge.holdsAll(WITHOUT_BOUNDARY);
        edge.end();
    }
}
