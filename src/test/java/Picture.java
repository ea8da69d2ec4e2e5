/** All that can be asked of a yard, as lines of text. */
final class Picture {
    private final MailYard yard;
    private final StringBuilder text = new StringBuilder();

    private Picture(MailYard yard) {
        this.yard = yard;
    }

    /** What is asked grows with the ids: with 10 of them it takes less than 200 calls. */
    static String of(MailYard yard, int ids) {
        Picture picture = new Picture(yard);
        for (int id = 1; id <= ids + 1; id++) {
            picture.actor(id);
        }
        picture.links(ids);
        picture.yardItself();
        return picture.text.toString();
    }

    private void actor(int id) {
        text.append(id).append(": status ").append(yard.status(id));
        if (yard.place(id) != MailYard.DEAD) {
            text.append(", place ").append(yard.place(id)).append(", registers");
            for (int r = 0; r < 4; r++) {
                text.append(' ').append(yard.register(id, r));
            }
            text.append(", supervisor ").append(yard.supervisor(id));
            text.append(", restarts ").append(yard.restarts(id)).append(", mail");
            int mail = yard.mail(id);
            for (int k = 0; k < mail; k++) {
                text.append(' ').append(yard.message(id, k));
            }
        }
        text.append('\n');
    }

    private void links(int ids) {
        text.append("links");
        for (int id = 1; id <= ids; id++) {
            for (int other = id + 1; other <= ids; other++) {
                if (yard.linked(id, other)) {
                    text.append(' ').append(id).append('-').append(other);
                }
            }
        }
        text.append('\n');
    }

    private void yardItself() {
        text.append("queue");
        for (int k = 0; k < 8 && yard.queue(k) != 0; k++) {
            text.append(' ').append(yard.queue(k));
        }
        text.append("\nroom ").append(yard.room()).append(", lost ").append(yard.lost());
        text.append(", timers ").append(yard.timers()).append(", outputs");
        int outputs = yard.output(-1);
        for (int i = 0; i < outputs; i++) {
            text.append(' ').append(yard.output(i)).append(" of ").append(yard.author(i));
        }
        text.append('\n');
    }
}
