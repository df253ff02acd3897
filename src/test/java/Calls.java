/** Calls by their names: on the program, and on the model beside it. */
final class Calls {
    private Calls() { }

    static int answer(ShapeSessions program, String call, int... a) {
        switch (call) {
            case "alter": return program.alter(a[0], a[1]);
            case "start": return program.start(a[0], a[1]);
            case "end": return program.end(a[0]);
            case "tick": return program.tick(a[0]);
            case "set": return program.set(a[0], a[1]);
            case "tableOf": return program.tableOf(a[0], a[1]);
            case "sessionOf": return program.sessionOf(a[0], a[1]);
            case "entry": return program.entry(a[0], a[1], a[2]);
            case "statement": return program.statement(a[0], a[1]);
            case "notice": return program.notice(a[0]);
            case "count": return program.count(a[0]);
            case "would": return program.would(a[0], a[1], a[2]);
            case "inTheWay": return program.inTheWay(a[0]);
            case "bestRoom": return program.bestRoom(a[0]);
            case "keep": return program.keep();
            case "restore": return program.restore();
            case "undo": return program.undo();
            case "type": return program.type(a[0]);
            case "clearText": return program.clearText();
            case "fault": return program.fault(a[0]);
            case "play": return program.play();
            default: throw new IllegalArgumentException(call);
        }
    }

    static int answer(Model model, String call, int... a) {
        switch (call) {
            case "alter": return model.alter(a[0], a[1]);
            case "start": return model.start(a[0], a[1]);
            case "end": return model.end(a[0]);
            case "tick": return model.tick(a[0]);
            case "set": return model.set(a[0], a[1]);
            case "tableOf": return model.tableOf(a[0], a[1]);
            case "sessionOf": return model.sessionOf(a[0], a[1]);
            case "entry": return model.entry(a[0], a[1], a[2]);
            case "statement": return model.statement(a[0], a[1]);
            case "notice": return model.notice(a[0]);
            case "count": return model.count(a[0]);
            case "would": return model.would(a[0], a[1], a[2]);
            case "inTheWay": return model.inTheWay(a[0]);
            case "bestRoom": return model.bestRoom(a[0]);
            case "keep": return model.keep();
            case "restore": return model.restore();
            case "undo": return model.undo();
            case "type": return model.type(a[0]);
            case "clearText": return model.clearText();
            case "fault": return model.fault(a[0]);
            case "play": return model.play();
            default: throw new IllegalArgumentException(call);
        }
    }
}
