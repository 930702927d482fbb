/** The calls of PaperAger by name; a boolean counts 1 or 0. */
final class Face {
    private Face() { }

    static int call(PaperAger x, String name, int... a) {
        return switch (name) {
            case "state" -> x.state(a[0]);
            case "reader" -> x.reader(a[0], a[1], a[2], a[3]);
            case "set" -> bit(x.set(a[0], a[1], a[2]));
            case "paper" -> x.paper(a[0]);
            case "move" -> bit(x.move(a[0], a[1]));
            case "swap" -> bit(x.swap(a[0], a[1]));
            case "fire" -> x.fire(a[0]);
            case "read" -> x.read(a[0], a[1]);
            case "lease" -> bit(x.lease(a[0], a[1]));
            case "days" -> x.days(a[0]);
            case "feed" -> x.feed(a[0], a[1], a[2], a[3], a[4]);
            case "end" -> bit(x.end(a[0]));
            case "text" -> x.text();
            case "fault" -> x.fault(a[0]);
            case "age" -> x.age(a[0], a[1]);
            case "of" -> x.of(a[0], a[1]);
            case "who" -> x.who(a[0], a[1]);
            case "book" -> x.book(a[0], a[1]);
            case "claim" -> x.claim(a[0], a[1], a[2], a[3]);
            case "fewest" -> x.fewest(a[0]);
            case "thumbs" -> x.thumbs(a[0], a[1], a[2]);
            case "leaps" -> x.leaps(a[0], a[1], a[2]);
            case "next" -> x.next();
            case "close" -> x.close();
            case "mean" -> x.mean(a[0]);
            case "undo" -> bit(x.undo());
            case "image" -> bit(x.image(a[0] == 1));
            case "look" -> x.look(a[0]);
            default -> throw new AssertionError(name);
        };
    }

    private static int bit(boolean b) {
        return b ? 1 : 0;
    }
}
